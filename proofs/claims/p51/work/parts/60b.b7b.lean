section ZBlocks
variable {T : Nat → Nat → zG → (Option zA → zM → Prop) → Prop}
theorem zb5_36r (hT : zRules T) {D : Nat} {κ : Option zA → zM → Prop} {m : zM} {p : Nat} {n : Nat} {r : Int} {k : Nat} {lo : zL} (hlo : z_keep [0, 2, 3, 4, 5] lo = [(0, zr 4), (2, zi (p : Int)), (3, zi (n : Int)), (4, zi r), (5, zi (k : Int))]) 
    (o1 : ¬ wr (k : Int) < wr (n : Int) → (0 ≤ wr (p : Int) ∧ wr (p : Int) < 4))
    (o2 : ¬ wr (k : Int) < wr (n : Int) → wr (m 4 4) < wr ((p : Int) + 1) → κ (some (zi (wr ((zu (zu m 6 ((wr (p : Int)).toNat) (n : Int)) 4 4 (wr ((p : Int) + 1))) 4 4)))) (zu (zu m 6 ((wr (p : Int)).toNat) (n : Int)) 4 4 (wr ((p : Int) + 1))))
    (o3 : ¬ wr (k : Int) < wr (n : Int) → ¬ wr (m 4 4) < wr ((p : Int) + 1) → κ (some (zi (wr ((zu (zu m 6 ((wr (p : Int)).toNat) (n : Int)) 4 4 (wr (m 4 4))) 4 4)))) (zu (zu m 6 ((wr (p : Int)).toNat) (n : Int)) 4 4 (wr (m 4 4))))
    (o4 : wr (k : Int) < wr (n : Int) → T (D + 1) 5 (42, [(0, zr 4), (2, zi (p : Int)), (3, zi (n : Int)), (4, zi r), (5, zi (k : Int))], [], m) κ) :
    T (D + 1) 5 (36, lo, [], m) κ :=
  zkeep hT hlo (hT.1 [(36, [0, 2, 3, 4, 5]), (42, [0, 2, 3, 4, 5])] 6 (D + 1) 5 _ κ (And.intro (fun a1 => (hT.1 [(36, [0, 2, 3, 4, 5]), (42, [0, 2, 3, 4, 5])] 6 (D + 1) 5 (84, [(0, zr 4), (2, zi (p : Int)), (3, zi (n : Int)), (4, zi r), (5, zi (k : Int))], [zi (p : Int), zr 6], m) _ (And.intro (And.intro (o1 a1) trivial) (hT.1 [(36, [0, 2, 3, 4, 5]), (42, [0, 2, 3, 4, 5])] 6 (D + 1) 5 (92, [(0, zr 4), (2, zi (p : Int)), (3, zi (n : Int)), (4, zi r), (5, zi (k : Int))], [zi (p : Int), zi (m 4 4), zr 4], (zu m 6 ((wr (p : Int)).toNat) (n : Int))) _ (hT.1 [] 6 D 295 _ _ (And.intro (fun a3 => (hT.1 [(36, [0, 2, 3, 4, 5]), (42, [0, 2, 3, 4, 5])] 6 (D + 1) 5 _ _ (And.intro trivial (o2 a1 a3)))) (fun a4 => (hT.1 [(36, [0, 2, 3, 4, 5]), (42, [0, 2, 3, 4, 5])] 6 (D + 1) 5 _ _ (And.intro trivial (o3 a1 a4)))))))))) (fun a2 => (o4 (Classical.byContradiction a2)))))
theorem zb5_36 (hT : zRules T) {D : Nat} {κ : Option zA → zM → Prop} {m : zM} {p : Nat} {n : Nat} {r : Int} {k : Nat} {lo : zL} (hlo : z_keep [0, 2, 3, 4, 5] lo = [(0, zr 4), (2, zi (p : Int)), (3, zi (n : Int)), (4, zi r), (5, zi (k : Int))])  (hB : zB m) (h_p : p ≤ 3) (h_n : n ≤ 26) (h_k : k ≤ 26) 
    (k1 : ¬ (k : Int) < (n : Int) → (m 4 4) < ((p : Int) + 1) → zB (zu (zu m 6 p (n : Int)) 4 4 ((p : Int) + 1)) → κ (some (zi ((p : Int) + 1))) (zu (zu m 6 p (n : Int)) 4 4 ((p : Int) + 1)))
    (k2 : ¬ (k : Int) < (n : Int) → ¬ (m 4 4) < ((p : Int) + 1) → zB (zu (zu m 6 p (n : Int)) 4 4 (m 4 4)) → κ (some (zi (m 4 4))) (zu (zu m 6 p (n : Int)) 4 4 (m 4 4)))
    (k3 : (k : Int) < (n : Int) → T (D + 1) 5 (42, [(0, zr 4), (2, zi (p : Int)), (3, zi (n : Int)), (4, zi r), (5, zi (k : Int))], [], m) κ) :
    T (D + 1) 5 (36, lo, [], m) κ := by
  have hb3 : 0 ≤ (m 4 4) ∧ (m 4 4) ≤ 4 := hB 4 4
  have he0 : wr (k : Int) = (k : Int) := wr_id (by omega) (by omega)
  have he1 : wr (n : Int) = (n : Int) := wr_id (by omega) (by omega)
  have he2 : wr (p : Int) = (p : Int) := wr_id (by omega) (by omega)
  have he3 : (p : Int).toNat = p := by omega
  have he4 : wr (m 4 4) = (m 4 4) := wr_id (by omega) (by omega)
  have he5 : wr ((p : Int) + 1) = ((p : Int) + 1) := wr_id (by omega) (by omega)
  have he6 : ((zu (zu m 6 p (n : Int)) 4 4 ((p : Int) + 1)) 4 4) = ((p : Int) + 1) := (zu_sm rfl)
  have he7 : ((zu (zu m 6 p (n : Int)) 4 4 (m 4 4)) 4 4) = (m 4 4) := (zu_sm rfl)
  have key := @zb5_36r T hT D κ m p n r k lo hlo
  simp only [he0, he1, he2, he3, he4, he5, he6, he7, Int.toNat_natCast] at key
  exact key
    (fun x0 => by refine ⟨?_, ?_⟩ <;> omega)
    (fun x0 x1 => k1 x0 x1 (zB_u (zB_u hB (show 0 ≤ (n : Int) ∧ (n : Int) ≤ 26 from ⟨by omega, by omega⟩)) (show 0 ≤ ((p : Int) + 1) ∧ ((p : Int) + 1) ≤ 4 from ⟨by omega, by omega⟩)))
    (fun x0 x1 => k2 x0 x1 (zB_u (zB_u hB (show 0 ≤ (n : Int) ∧ (n : Int) ≤ 26 from ⟨by omega, by omega⟩)) (show 0 ≤ (m 4 4) ∧ (m 4 4) ≤ 4 from ⟨by omega, by omega⟩)))
    k3
theorem zb286_38r (hT : zRules T) {D : Nat} {κ : Option zA → zM → Prop} {m : zM} {p : Nat} {n : Nat} {r : Int} {k : Nat} {lo : zL} (hlo : z_keep [0, 2, 3, 4, 5] lo = [(0, zr 74), (2, zi (p : Int)), (3, zi (n : Int)), (4, zi r), (5, zi (k : Int))]) 
    (o1 : ¬ wr (k : Int) < wr (n : Int) → (0 ≤ wr (p : Int) ∧ wr (p : Int) < 4))
    (o2 : ¬ wr (k : Int) < wr (n : Int) → wr (m 74 1) < wr ((p : Int) + 1) → κ (some (zi (wr ((zu (zu m 77 ((wr (p : Int)).toNat) (n : Int)) 74 1 (wr ((p : Int) + 1))) 74 1)))) (zu (zu m 77 ((wr (p : Int)).toNat) (n : Int)) 74 1 (wr ((p : Int) + 1))))
    (o3 : ¬ wr (k : Int) < wr (n : Int) → ¬ wr (m 74 1) < wr ((p : Int) + 1) → κ (some (zi (wr ((zu (zu m 77 ((wr (p : Int)).toNat) (n : Int)) 74 1 (wr (m 74 1))) 74 1)))) (zu (zu m 77 ((wr (p : Int)).toNat) (n : Int)) 74 1 (wr (m 74 1))))
    (o4 : wr (k : Int) < wr (n : Int) → T (D + 2) 286 (44, [(0, zr 74), (2, zi (p : Int)), (3, zi (n : Int)), (4, zi r), (5, zi (k : Int))], [], m) κ) :
    T (D + 2) 286 (38, lo, [], m) κ :=
  zkeep hT hlo (hT.1 [(38, [0, 2, 3, 4, 5]), (44, [0, 2, 3, 4, 5])] 6 (D + 2) 286 _ κ (And.intro (fun a1 => (hT.1 [(38, [0, 2, 3, 4, 5]), (44, [0, 2, 3, 4, 5])] 6 (D + 2) 286 (87, [(0, zr 74), (2, zi (p : Int)), (3, zi (n : Int)), (4, zi r), (5, zi (k : Int))], [zi (p : Int), zr 77], m) _ (And.intro (And.intro (o1 a1) trivial) (hT.1 [(38, [0, 2, 3, 4, 5]), (44, [0, 2, 3, 4, 5])] 6 (D + 2) 286 (95, [(0, zr 74), (2, zi (p : Int)), (3, zi (n : Int)), (4, zi r), (5, zi (k : Int))], [zi (p : Int), zi (m 74 1), zr 74], (zu m 77 ((wr (p : Int)).toNat) (n : Int))) _ (hT.1 [] 6 (D + 1) 295 _ _ (And.intro (fun a3 => (hT.1 [(38, [0, 2, 3, 4, 5]), (44, [0, 2, 3, 4, 5])] 6 (D + 2) 286 _ _ (And.intro trivial (o2 a1 a3)))) (fun a4 => (hT.1 [(38, [0, 2, 3, 4, 5]), (44, [0, 2, 3, 4, 5])] 6 (D + 2) 286 _ _ (And.intro trivial (o3 a1 a4)))))))))) (fun a2 => (o4 (Classical.byContradiction a2)))))
theorem zb286_38 (hT : zRules T) {D : Nat} {κ : Option zA → zM → Prop} {m : zM} {p : Nat} {n : Nat} {r : Int} {k : Nat} {lo : zL} (hlo : z_keep [0, 2, 3, 4, 5] lo = [(0, zr 74), (2, zi (p : Int)), (3, zi (n : Int)), (4, zi r), (5, zi (k : Int))])  (hB : zB m) (h_p : p ≤ 3) (h_n : n ≤ 26) (h_k : k ≤ 26) 
    (k1 : ¬ (k : Int) < (n : Int) → (m 74 1) < ((p : Int) + 1) → zB (zu (zu m 77 p (n : Int)) 74 1 ((p : Int) + 1)) → κ (some (zi ((p : Int) + 1))) (zu (zu m 77 p (n : Int)) 74 1 ((p : Int) + 1)))
    (k2 : ¬ (k : Int) < (n : Int) → ¬ (m 74 1) < ((p : Int) + 1) → zB (zu (zu m 77 p (n : Int)) 74 1 (m 74 1)) → κ (some (zi (m 74 1))) (zu (zu m 77 p (n : Int)) 74 1 (m 74 1)))
    (k3 : (k : Int) < (n : Int) → T (D + 2) 286 (44, [(0, zr 74), (2, zi (p : Int)), (3, zi (n : Int)), (4, zi r), (5, zi (k : Int))], [], m) κ) :
    T (D + 2) 286 (38, lo, [], m) κ := by
  have hb3 : 0 ≤ (m 74 1) ∧ (m 74 1) ≤ 4 := hB 74 1
  have he0 : wr (k : Int) = (k : Int) := wr_id (by omega) (by omega)
  have he1 : wr (n : Int) = (n : Int) := wr_id (by omega) (by omega)
  have he2 : wr (p : Int) = (p : Int) := wr_id (by omega) (by omega)
  have he3 : (p : Int).toNat = p := by omega
  have he4 : wr (m 74 1) = (m 74 1) := wr_id (by omega) (by omega)
  have he5 : wr ((p : Int) + 1) = ((p : Int) + 1) := wr_id (by omega) (by omega)
  have he6 : ((zu (zu m 77 p (n : Int)) 74 1 ((p : Int) + 1)) 74 1) = ((p : Int) + 1) := (zu_sm rfl)
  have he7 : ((zu (zu m 77 p (n : Int)) 74 1 (m 74 1)) 74 1) = (m 74 1) := (zu_sm rfl)
  have key := @zb286_38r T hT D κ m p n r k lo hlo
  simp only [he0, he1, he2, he3, he4, he5, he6, he7, Int.toNat_natCast] at key
  exact key
    (fun x0 => by refine ⟨?_, ?_⟩ <;> omega)
    (fun x0 x1 => k1 x0 x1 (zB_u (zB_u hB (show 0 ≤ (n : Int) ∧ (n : Int) ≤ 26 from ⟨by omega, by omega⟩)) (show 0 ≤ ((p : Int) + 1) ∧ ((p : Int) + 1) ≤ 4 from ⟨by omega, by omega⟩)))
    (fun x0 x1 => k2 x0 x1 (zB_u (zB_u hB (show 0 ≤ (n : Int) ∧ (n : Int) ≤ 26 from ⟨by omega, by omega⟩)) (show 0 ≤ (m 74 1) ∧ (m 74 1) ≤ 4 from ⟨by omega, by omega⟩)))
    k3
theorem zt5_42 (hT : zRules T) {D : Nat} {κ : Option zA → zM → Prop} {m : zM} {p : Nat} {n : Nat} {r : Int} {k : Nat} (h : T (D + 1) 5 (44, [(0, zr 4), (2, zi (p : Int)), (3, zi (n : Int)), (4, zi r), (5, zi (k : Int))], [zi r], m) κ) :
    T (D + 1) 5 (42, [(0, zr 4), (2, zi (p : Int)), (3, zi (n : Int)), (4, zi r), (5, zi (k : Int))], [], m) κ :=
  hT.1 [(36, [0, 2, 3, 4, 5])] 1 (D + 1) 5 _ κ h
theorem zt5_44 (hT : zRules T) {D : Nat} {κ : Option zA → zM → Prop} {m : zM} {p : Nat} {n : Nat} {r : Int} {k : Nat} (h : T (D + 1) 5 (46, [(0, zr 4), (2, zi (p : Int)), (3, zi (n : Int)), (4, zi r), (5, zi (k : Int))], [zi 1103515245, zi r], m) κ) :
    T (D + 1) 5 (44, [(0, zr 4), (2, zi (p : Int)), (3, zi (n : Int)), (4, zi r), (5, zi (k : Int))], [zi r], m) κ :=
  hT.1 [(36, [0, 2, 3, 4, 5])] 1 (D + 1) 5 _ κ h
theorem zt5_46 (hT : zRules T) {D : Nat} {κ : Option zA → zM → Prop} {m : zM} {p : Nat} {n : Nat} {r : Int} {k : Nat} (h : T (D + 1) 5 (47, [(0, zr 4), (2, zi (p : Int)), (3, zi (n : Int)), (4, zi r), (5, zi (k : Int))], [zi (r * 1103515245)], m) κ) :
    T (D + 1) 5 (46, [(0, zr 4), (2, zi (p : Int)), (3, zi (n : Int)), (4, zi r), (5, zi (k : Int))], [zi 1103515245, zi r], m) κ :=
  hT.1 [(36, [0, 2, 3, 4, 5])] 1 (D + 1) 5 _ κ h
theorem zt5_47 (hT : zRules T) {D : Nat} {κ : Option zA → zM → Prop} {m : zM} {p : Nat} {n : Nat} {r : Int} {k : Nat} (h : T (D + 1) 5 (50, [(0, zr 4), (2, zi (p : Int)), (3, zi (n : Int)), (4, zi r), (5, zi (k : Int))], [zi 12345, zi (r * 1103515245)], m) κ) :
    T (D + 1) 5 (47, [(0, zr 4), (2, zi (p : Int)), (3, zi (n : Int)), (4, zi r), (5, zi (k : Int))], [zi (r * 1103515245)], m) κ :=
  hT.1 [(36, [0, 2, 3, 4, 5])] 1 (D + 1) 5 _ κ h
theorem zt5_50 (hT : zRules T) {D : Nat} {κ : Option zA → zM → Prop} {m : zM} {p : Nat} {n : Nat} {r : Int} {k : Nat} (h : T (D + 1) 5 (51, [(0, zr 4), (2, zi (p : Int)), (3, zi (n : Int)), (4, zi r), (5, zi (k : Int))], [zi ((r * 1103515245) + 12345)], m) κ) :
    T (D + 1) 5 (50, [(0, zr 4), (2, zi (p : Int)), (3, zi (n : Int)), (4, zi r), (5, zi (k : Int))], [zi 12345, zi (r * 1103515245)], m) κ :=
  hT.1 [(36, [0, 2, 3, 4, 5])] 1 (D + 1) 5 _ κ h
theorem zt5_51 (hT : zRules T) {D : Nat} {κ : Option zA → zM → Prop} {m : zM} {p : Nat} {n : Nat} {r : Int} {k : Nat} (h : T (D + 1) 5 (53, [(0, zr 4), (2, zi (p : Int)), (3, zi (n : Int)), (4, zi ((r * 1103515245) + 12345)), (5, zi (k : Int))], [], m) κ) :
    T (D + 1) 5 (51, [(0, zr 4), (2, zi (p : Int)), (3, zi (n : Int)), (4, zi r), (5, zi (k : Int))], [zi ((r * 1103515245) + 12345)], m) κ :=
  hT.1 [(36, [0, 2, 3, 4, 5])] 1 (D + 1) 5 _ κ h
theorem zt5_53 (hT : zRules T) {D : Nat} {κ : Option zA → zM → Prop} {m : zM} {p : Nat} {n : Nat} {r : Int} {k : Nat} (h : T (D + 1) 5 (54, [(0, zr 4), (2, zi (p : Int)), (3, zi (n : Int)), (4, zi ((r * 1103515245) + 12345)), (5, zi (k : Int))], [zr 4], m) κ) :
    T (D + 1) 5 (53, [(0, zr 4), (2, zi (p : Int)), (3, zi (n : Int)), (4, zi ((r * 1103515245) + 12345)), (5, zi (k : Int))], [], m) κ :=
  hT.1 [(36, [0, 2, 3, 4, 5])] 1 (D + 1) 5 _ κ h
theorem zt5_54 (hT : zRules T) {D : Nat} {κ : Option zA → zM → Prop} {m : zM} {p : Nat} {n : Nat} {r : Int} {k : Nat} (h : T (D + 1) 5 (57, [(0, zr 4), (2, zi (p : Int)), (3, zi (n : Int)), (4, zi ((r * 1103515245) + 12345)), (5, zi (k : Int))], [zr 5], m) κ) :
    T (D + 1) 5 (54, [(0, zr 4), (2, zi (p : Int)), (3, zi (n : Int)), (4, zi ((r * 1103515245) + 12345)), (5, zi (k : Int))], [zr 4], m) κ :=
  hT.1 [(36, [0, 2, 3, 4, 5])] 1 (D + 1) 5 _ κ h
theorem zt5_57 (hT : zRules T) {D : Nat} {κ : Option zA → zM → Prop} {m : zM} {p : Nat} {n : Nat} {r : Int} {k : Nat} (h : T (D + 1) 5 (58, [(0, zr 4), (2, zi (p : Int)), (3, zi (n : Int)), (4, zi ((r * 1103515245) + 12345)), (5, zi (k : Int))], [zi (p : Int), zr 5], m) κ) :
    T (D + 1) 5 (57, [(0, zr 4), (2, zi (p : Int)), (3, zi (n : Int)), (4, zi ((r * 1103515245) + 12345)), (5, zi (k : Int))], [zr 5], m) κ :=
  hT.1 [(36, [0, 2, 3, 4, 5])] 1 (D + 1) 5 _ κ h
theorem zt5_58 (hT : zRules T) {D : Nat} {κ : Option zA → zM → Prop} {m : zM} {p : Nat} {n : Nat} {r : Int} {k : Nat} (h : T (D + 1) 5 (60, [(0, zr 4), (2, zi (p : Int)), (3, zi (n : Int)), (4, zi ((r * 1103515245) + 12345)), (5, zi (k : Int))], [zi 26, zi (p : Int), zr 5], m) κ) :
    T (D + 1) 5 (58, [(0, zr 4), (2, zi (p : Int)), (3, zi (n : Int)), (4, zi ((r * 1103515245) + 12345)), (5, zi (k : Int))], [zi (p : Int), zr 5], m) κ :=
  hT.1 [(36, [0, 2, 3, 4, 5])] 1 (D + 1) 5 _ κ h
theorem zt5_60 (hT : zRules T) {D : Nat} {κ : Option zA → zM → Prop} {m : zM} {p : Nat} {n : Nat} {r : Int} {k : Nat} (h : T (D + 1) 5 (61, [(0, zr 4), (2, zi (p : Int)), (3, zi (n : Int)), (4, zi ((r * 1103515245) + 12345)), (5, zi (k : Int))], [zi ((p : Int) * 26), zr 5], m) κ) :
    T (D + 1) 5 (60, [(0, zr 4), (2, zi (p : Int)), (3, zi (n : Int)), (4, zi ((r * 1103515245) + 12345)), (5, zi (k : Int))], [zi 26, zi (p : Int), zr 5], m) κ :=
  hT.1 [(36, [0, 2, 3, 4, 5])] 1 (D + 1) 5 _ κ h
theorem zt5_61 (hT : zRules T) {D : Nat} {κ : Option zA → zM → Prop} {m : zM} {p : Nat} {n : Nat} {r : Int} {k : Nat} (h : T (D + 1) 5 (63, [(0, zr 4), (2, zi (p : Int)), (3, zi (n : Int)), (4, zi ((r * 1103515245) + 12345)), (5, zi (k : Int))], [zi (k : Int), zi ((p : Int) * 26), zr 5], m) κ) :
    T (D + 1) 5 (61, [(0, zr 4), (2, zi (p : Int)), (3, zi (n : Int)), (4, zi ((r * 1103515245) + 12345)), (5, zi (k : Int))], [zi ((p : Int) * 26), zr 5], m) κ :=
  hT.1 [(36, [0, 2, 3, 4, 5])] 1 (D + 1) 5 _ κ h
theorem zt5_63 (hT : zRules T) {D : Nat} {κ : Option zA → zM → Prop} {m : zM} {p : Nat} {n : Nat} {r : Int} {k : Nat} (h : T (D + 1) 5 (64, [(0, zr 4), (2, zi (p : Int)), (3, zi (n : Int)), (4, zi ((r * 1103515245) + 12345)), (5, zi (k : Int))], [zi (((p : Int) * 26) + (k : Int)), zr 5], m) κ) :
    T (D + 1) 5 (63, [(0, zr 4), (2, zi (p : Int)), (3, zi (n : Int)), (4, zi ((r * 1103515245) + 12345)), (5, zi (k : Int))], [zi (k : Int), zi ((p : Int) * 26), zr 5], m) κ :=
  hT.1 [(36, [0, 2, 3, 4, 5])] 1 (D + 1) 5 _ κ h
theorem zt5_64 (hT : zRules T) {D : Nat} {κ : Option zA → zM → Prop} {m : zM} {p : Nat} {n : Nat} {r : Int} {k : Nat} (h : T (D + 1) 5 (66, [(0, zr 4), (2, zi (p : Int)), (3, zi (n : Int)), (4, zi ((r * 1103515245) + 12345)), (5, zi (k : Int))], [zi ((r * 1103515245) + 12345), zi (((p : Int) * 26) + (k : Int)), zr 5], m) κ) :
    T (D + 1) 5 (64, [(0, zr 4), (2, zi (p : Int)), (3, zi (n : Int)), (4, zi ((r * 1103515245) + 12345)), (5, zi (k : Int))], [zi (((p : Int) * 26) + (k : Int)), zr 5], m) κ :=
  hT.1 [(36, [0, 2, 3, 4, 5])] 1 (D + 1) 5 _ κ h
theorem zt5_66 (hT : zRules T) {D : Nat} {κ : Option zA → zM → Prop} {m : zM} {p : Nat} {n : Nat} {r : Int} {k : Nat} (h : T (D + 1) 5 (68, [(0, zr 4), (2, zi (p : Int)), (3, zi (n : Int)), (4, zi ((r * 1103515245) + 12345)), (5, zi (k : Int))], [zi 16, zi ((r * 1103515245) + 12345), zi (((p : Int) * 26) + (k : Int)), zr 5], m) κ) :
    T (D + 1) 5 (66, [(0, zr 4), (2, zi (p : Int)), (3, zi (n : Int)), (4, zi ((r * 1103515245) + 12345)), (5, zi (k : Int))], [zi ((r * 1103515245) + 12345), zi (((p : Int) * 26) + (k : Int)), zr 5], m) κ :=
  hT.1 [(36, [0, 2, 3, 4, 5])] 1 (D + 1) 5 _ κ h
theorem zt5_68 (hT : zRules T) {D : Nat} {κ : Option zA → zM → Prop} {m : zM} {p : Nat} {n : Nat} {r : Int} {k : Nat} (h : T (D + 1) 5 (69, [(0, zr 4), (2, zi (p : Int)), (3, zi (n : Int)), (4, zi ((r * 1103515245) + 12345)), (5, zi (k : Int))], [zi (z_ush ((r * 1103515245) + 12345) 16), zi (((p : Int) * 26) + (k : Int)), zr 5], m) κ) :
    T (D + 1) 5 (68, [(0, zr 4), (2, zi (p : Int)), (3, zi (n : Int)), (4, zi ((r * 1103515245) + 12345)), (5, zi (k : Int))], [zi 16, zi ((r * 1103515245) + 12345), zi (((p : Int) * 26) + (k : Int)), zr 5], m) κ :=
  hT.1 [(36, [0, 2, 3, 4, 5])] 1 (D + 1) 5 _ κ h
theorem zt5_69 (hT : zRules T) {D : Nat} {κ : Option zA → zM → Prop} {m : zM} {p : Nat} {n : Nat} {r : Int} {k : Nat} (h : T (D + 1) 5 (71, [(0, zr 4), (2, zi (p : Int)), (3, zi (n : Int)), (4, zi ((r * 1103515245) + 12345)), (5, zi (k : Int))], [zi 10, zi (z_ush ((r * 1103515245) + 12345) 16), zi (((p : Int) * 26) + (k : Int)), zr 5], m) κ) :
    T (D + 1) 5 (69, [(0, zr 4), (2, zi (p : Int)), (3, zi (n : Int)), (4, zi ((r * 1103515245) + 12345)), (5, zi (k : Int))], [zi (z_ush ((r * 1103515245) + 12345) 16), zi (((p : Int) * 26) + (k : Int)), zr 5], m) κ :=
  hT.1 [(36, [0, 2, 3, 4, 5])] 1 (D + 1) 5 _ κ h
theorem zt5_71 (hT : zRules T) {D : Nat} {κ : Option zA → zM → Prop} {m : zM} {p : Nat} {n : Nat} {r : Int} {k : Nat} (h : T (D + 1) 5 (72, [(0, zr 4), (2, zi (p : Int)), (3, zi (n : Int)), (4, zi ((r * 1103515245) + 12345)), (5, zi (k : Int))], [zi (Int.tmod (wr (z_ush ((r * 1103515245) + 12345) 16)) 10), zi (((p : Int) * 26) + (k : Int)), zr 5], m) κ) :
    T (D + 1) 5 (71, [(0, zr 4), (2, zi (p : Int)), (3, zi (n : Int)), (4, zi ((r * 1103515245) + 12345)), (5, zi (k : Int))], [zi 10, zi (z_ush ((r * 1103515245) + 12345) 16), zi (((p : Int) * 26) + (k : Int)), zr 5], m) κ :=
  hT.1 [(36, [0, 2, 3, 4, 5])] 1 (D + 1) 5 _ κ (And.intro (z_neL rfl) h)
theorem zt5_72 (hT : zRules T) {D : Nat} {κ : Option zA → zM → Prop} {m : zM} {p : Nat} {n : Nat} {r : Int} {k : Nat} (o : (0 ≤ wr (((p : Int) * 26) + (k : Int)) ∧ wr (((p : Int) * 26) + (k : Int)) < 104)) (h : T (D + 1) 5 (73, [(0, zr 4), (2, zi (p : Int)), (3, zi (n : Int)), (4, zi ((r * 1103515245) + 12345)), (5, zi (k : Int))], [], (zu m 5 ((wr (((p : Int) * 26) + (k : Int))).toNat) (Int.tmod (wr (z_ush ((r * 1103515245) + 12345) 16)) 10))) κ) :
    T (D + 1) 5 (72, [(0, zr 4), (2, zi (p : Int)), (3, zi (n : Int)), (4, zi ((r * 1103515245) + 12345)), (5, zi (k : Int))], [zi (Int.tmod (wr (z_ush ((r * 1103515245) + 12345) 16)) 10), zi (((p : Int) * 26) + (k : Int)), zr 5], m) κ :=
  hT.1 [(36, [0, 2, 3, 4, 5])] 1 (D + 1) 5 _ κ (And.intro (And.intro o trivial) h)
theorem zt5_73 (hT : zRules T) {D : Nat} {κ : Option zA → zM → Prop} {m : zM} {p : Nat} {n : Nat} {r : Int} {k : Nat} (h : T (D + 1) 5 (76, [(0, zr 4), (2, zi (p : Int)), (3, zi (n : Int)), (4, zi ((r * 1103515245) + 12345)), (5, zi ((k : Int) + 1))], [], (zu m 5 ((wr (((p : Int) * 26) + (k : Int))).toNat) (Int.tmod (wr (z_ush ((r * 1103515245) + 12345) 16)) 10))) κ) :
    T (D + 1) 5 (73, [(0, zr 4), (2, zi (p : Int)), (3, zi (n : Int)), (4, zi ((r * 1103515245) + 12345)), (5, zi (k : Int))], [], (zu m 5 ((wr (((p : Int) * 26) + (k : Int))).toNat) (Int.tmod (wr (z_ush ((r * 1103515245) + 12345) 16)) 10))) κ :=
  hT.1 [(36, [0, 2, 3, 4, 5])] 1 (D + 1) 5 _ κ h
theorem zt5_76 (hT : zRules T) {D : Nat} {κ : Option zA → zM → Prop} {m : zM} {p : Nat} {n : Nat} {r : Int} {k : Nat} (h : T (D + 1) 5 (36, [(0, zr 4), (2, zi (p : Int)), (3, zi (n : Int)), (4, zi ((r * 1103515245) + 12345)), (5, zi ((k : Int) + 1))], [], (zu m 5 ((wr (((p : Int) * 26) + (k : Int))).toNat) (Int.tmod (wr (z_ush ((r * 1103515245) + 12345) 16)) 10))) κ) :
    T (D + 1) 5 (76, [(0, zr 4), (2, zi (p : Int)), (3, zi (n : Int)), (4, zi ((r * 1103515245) + 12345)), (5, zi ((k : Int) + 1))], [], (zu m 5 ((wr (((p : Int) * 26) + (k : Int))).toNat) (Int.tmod (wr (z_ush ((r * 1103515245) + 12345) 16)) 10))) κ :=
  hT.1 [(36, [0, 2, 3, 4, 5])] 1 (D + 1) 5 _ κ h
theorem zd5 (hT : zRules T) {D : Nat} {κ : Option zA → zM → Prop} {m : zM} {p : Nat} {n : Nat} {r : Int} {k : Nat} (hp : p ≤ 3) (hk : k < 26) (h : T (D + 1) 5 (36, [(0, zr 4), (2, zi (p : Int)), (3, zi (n : Int)), (4, zi ((r * 1103515245) + 12345)), (5, zi ((k : Int) + 1))], [], (zu m 5 (26 * p + k) (Int.tmod (z_ush ((r * 1103515245) + 12345) 16) 10))) κ) :
    T (D + 1) 5 (42, [(0, zr 4), (2, zi (p : Int)), (3, zi (n : Int)), (4, zi r), (5, zi (k : Int))], [], m) κ := by
  have b1 := z_ushB ((r * 1103515245) + 12345) 16
  have e2 : wr (z_ush ((r * 1103515245) + 12345) 16) = z_ush ((r * 1103515245) + 12345) 16 := wr_id b1.1 b1.2
  have e3 : wr (((p : Int) * 26) + (k : Int)) = (((p : Int) * 26) + (k : Int)) := wr_id (by omega) (by omega)
  have e1 : (wr (((p : Int) * 26) + (k : Int))).toNat = 26 * p + k := by rw [e3]; omega
  have ho : 0 ≤ wr (((p : Int) * 26) + (k : Int)) ∧ wr (((p : Int) * 26) + (k : Int)) < 104 := by rw [e3]; omega
  have h1 : T (D + 1) 5 (36, [(0, zr 4), (2, zi (p : Int)), (3, zi (n : Int)), (4, zi ((r * 1103515245) + 12345)), (5, zi ((k : Int) + 1))], [], (zu m 5 ((wr (((p : Int) * 26) + (k : Int))).toNat) (Int.tmod (wr (z_ush ((r * 1103515245) + 12345) 16)) 10))) κ := by
    rw [e1, e2]
    exact h
  exact (zt5_42 hT (zt5_44 hT (zt5_46 hT (zt5_47 hT (zt5_50 hT (zt5_51 hT (zt5_53 hT (zt5_54 hT (zt5_57 hT (zt5_58 hT (zt5_60 hT (zt5_61 hT (zt5_63 hT (zt5_64 hT (zt5_66 hT (zt5_68 hT (zt5_69 hT (zt5_71 hT (zt5_72 hT ho (zt5_73 hT (zt5_76 hT h1)))))))))))))))))))))
theorem zt286_44 (hT : zRules T) {D : Nat} {κ : Option zA → zM → Prop} {m : zM} {p : Nat} {n : Nat} {r : Int} {k : Nat} (h : T (D + 2) 286 (46, [(0, zr 74), (2, zi (p : Int)), (3, zi (n : Int)), (4, zi r), (5, zi (k : Int))], [zi r], m) κ) :
    T (D + 2) 286 (44, [(0, zr 74), (2, zi (p : Int)), (3, zi (n : Int)), (4, zi r), (5, zi (k : Int))], [], m) κ :=
  hT.1 [(38, [0, 2, 3, 4, 5])] 1 (D + 2) 286 _ κ h
theorem zt286_46 (hT : zRules T) {D : Nat} {κ : Option zA → zM → Prop} {m : zM} {p : Nat} {n : Nat} {r : Int} {k : Nat} (h : T (D + 2) 286 (49, [(0, zr 74), (2, zi (p : Int)), (3, zi (n : Int)), (4, zi r), (5, zi (k : Int))], [zi 1103515245, zi r], m) κ) :
    T (D + 2) 286 (46, [(0, zr 74), (2, zi (p : Int)), (3, zi (n : Int)), (4, zi r), (5, zi (k : Int))], [zi r], m) κ :=
  hT.1 [(38, [0, 2, 3, 4, 5])] 1 (D + 2) 286 _ κ h
theorem zt286_49 (hT : zRules T) {D : Nat} {κ : Option zA → zM → Prop} {m : zM} {p : Nat} {n : Nat} {r : Int} {k : Nat} (h : T (D + 2) 286 (50, [(0, zr 74), (2, zi (p : Int)), (3, zi (n : Int)), (4, zi r), (5, zi (k : Int))], [zi (r * 1103515245)], m) κ) :
    T (D + 2) 286 (49, [(0, zr 74), (2, zi (p : Int)), (3, zi (n : Int)), (4, zi r), (5, zi (k : Int))], [zi 1103515245, zi r], m) κ :=
  hT.1 [(38, [0, 2, 3, 4, 5])] 1 (D + 2) 286 _ κ h
theorem zt286_50 (hT : zRules T) {D : Nat} {κ : Option zA → zM → Prop} {m : zM} {p : Nat} {n : Nat} {r : Int} {k : Nat} (h : T (D + 2) 286 (53, [(0, zr 74), (2, zi (p : Int)), (3, zi (n : Int)), (4, zi r), (5, zi (k : Int))], [zi 12345, zi (r * 1103515245)], m) κ) :
    T (D + 2) 286 (50, [(0, zr 74), (2, zi (p : Int)), (3, zi (n : Int)), (4, zi r), (5, zi (k : Int))], [zi (r * 1103515245)], m) κ :=
  hT.1 [(38, [0, 2, 3, 4, 5])] 1 (D + 2) 286 _ κ h
theorem zt286_53 (hT : zRules T) {D : Nat} {κ : Option zA → zM → Prop} {m : zM} {p : Nat} {n : Nat} {r : Int} {k : Nat} (h : T (D + 2) 286 (54, [(0, zr 74), (2, zi (p : Int)), (3, zi (n : Int)), (4, zi r), (5, zi (k : Int))], [zi ((r * 1103515245) + 12345)], m) κ) :
    T (D + 2) 286 (53, [(0, zr 74), (2, zi (p : Int)), (3, zi (n : Int)), (4, zi r), (5, zi (k : Int))], [zi 12345, zi (r * 1103515245)], m) κ :=
  hT.1 [(38, [0, 2, 3, 4, 5])] 1 (D + 2) 286 _ κ h
theorem zt286_54 (hT : zRules T) {D : Nat} {κ : Option zA → zM → Prop} {m : zM} {p : Nat} {n : Nat} {r : Int} {k : Nat} (h : T (D + 2) 286 (56, [(0, zr 74), (2, zi (p : Int)), (3, zi (n : Int)), (4, zi ((r * 1103515245) + 12345)), (5, zi (k : Int))], [], m) κ) :
    T (D + 2) 286 (54, [(0, zr 74), (2, zi (p : Int)), (3, zi (n : Int)), (4, zi r), (5, zi (k : Int))], [zi ((r * 1103515245) + 12345)], m) κ :=
  hT.1 [(38, [0, 2, 3, 4, 5])] 1 (D + 2) 286 _ κ h
theorem zt286_56 (hT : zRules T) {D : Nat} {κ : Option zA → zM → Prop} {m : zM} {p : Nat} {n : Nat} {r : Int} {k : Nat} (h : T (D + 2) 286 (57, [(0, zr 74), (2, zi (p : Int)), (3, zi (n : Int)), (4, zi ((r * 1103515245) + 12345)), (5, zi (k : Int))], [zr 74], m) κ) :
    T (D + 2) 286 (56, [(0, zr 74), (2, zi (p : Int)), (3, zi (n : Int)), (4, zi ((r * 1103515245) + 12345)), (5, zi (k : Int))], [], m) κ :=
  hT.1 [(38, [0, 2, 3, 4, 5])] 1 (D + 2) 286 _ κ h
theorem zt286_57 (hT : zRules T) {D : Nat} {κ : Option zA → zM → Prop} {m : zM} {p : Nat} {n : Nat} {r : Int} {k : Nat} (h : T (D + 2) 286 (60, [(0, zr 74), (2, zi (p : Int)), (3, zi (n : Int)), (4, zi ((r * 1103515245) + 12345)), (5, zi (k : Int))], [zr 76], m) κ) :
    T (D + 2) 286 (57, [(0, zr 74), (2, zi (p : Int)), (3, zi (n : Int)), (4, zi ((r * 1103515245) + 12345)), (5, zi (k : Int))], [zr 74], m) κ :=
  hT.1 [(38, [0, 2, 3, 4, 5])] 1 (D + 2) 286 _ κ h
theorem zt286_60 (hT : zRules T) {D : Nat} {κ : Option zA → zM → Prop} {m : zM} {p : Nat} {n : Nat} {r : Int} {k : Nat} (h : T (D + 2) 286 (62, [(0, zr 74), (2, zi (p : Int)), (3, zi (n : Int)), (4, zi ((r * 1103515245) + 12345)), (5, zi (k : Int))], [zi 26, zr 76], m) κ) :
    T (D + 2) 286 (60, [(0, zr 74), (2, zi (p : Int)), (3, zi (n : Int)), (4, zi ((r * 1103515245) + 12345)), (5, zi (k : Int))], [zr 76], m) κ :=
  hT.1 [(38, [0, 2, 3, 4, 5])] 1 (D + 2) 286 _ κ h
theorem zt286_62 (hT : zRules T) {D : Nat} {κ : Option zA → zM → Prop} {m : zM} {p : Nat} {n : Nat} {r : Int} {k : Nat} (h : T (D + 2) 286 (63, [(0, zr 74), (2, zi (p : Int)), (3, zi (n : Int)), (4, zi ((r * 1103515245) + 12345)), (5, zi (k : Int))], [zi (p : Int), zi 26, zr 76], m) κ) :
    T (D + 2) 286 (62, [(0, zr 74), (2, zi (p : Int)), (3, zi (n : Int)), (4, zi ((r * 1103515245) + 12345)), (5, zi (k : Int))], [zi 26, zr 76], m) κ :=
  hT.1 [(38, [0, 2, 3, 4, 5])] 1 (D + 2) 286 _ κ h
theorem zt286_63 (hT : zRules T) {D : Nat} {κ : Option zA → zM → Prop} {m : zM} {p : Nat} {n : Nat} {r : Int} {k : Nat} (h : T (D + 2) 286 (64, [(0, zr 74), (2, zi (p : Int)), (3, zi (n : Int)), (4, zi ((r * 1103515245) + 12345)), (5, zi (k : Int))], [zi (26 * (p : Int)), zr 76], m) κ) :
    T (D + 2) 286 (63, [(0, zr 74), (2, zi (p : Int)), (3, zi (n : Int)), (4, zi ((r * 1103515245) + 12345)), (5, zi (k : Int))], [zi (p : Int), zi 26, zr 76], m) κ :=
  hT.1 [(38, [0, 2, 3, 4, 5])] 1 (D + 2) 286 _ κ h
theorem zt286_64 (hT : zRules T) {D : Nat} {κ : Option zA → zM → Prop} {m : zM} {p : Nat} {n : Nat} {r : Int} {k : Nat} (h : T (D + 2) 286 (66, [(0, zr 74), (2, zi (p : Int)), (3, zi (n : Int)), (4, zi ((r * 1103515245) + 12345)), (5, zi (k : Int))], [zi (k : Int), zi (26 * (p : Int)), zr 76], m) κ) :
    T (D + 2) 286 (64, [(0, zr 74), (2, zi (p : Int)), (3, zi (n : Int)), (4, zi ((r * 1103515245) + 12345)), (5, zi (k : Int))], [zi (26 * (p : Int)), zr 76], m) κ :=
  hT.1 [(38, [0, 2, 3, 4, 5])] 1 (D + 2) 286 _ κ h
theorem zt286_66 (hT : zRules T) {D : Nat} {κ : Option zA → zM → Prop} {m : zM} {p : Nat} {n : Nat} {r : Int} {k : Nat} (h : T (D + 2) 286 (67, [(0, zr 74), (2, zi (p : Int)), (3, zi (n : Int)), (4, zi ((r * 1103515245) + 12345)), (5, zi (k : Int))], [zi ((26 * (p : Int)) + (k : Int)), zr 76], m) κ) :
    T (D + 2) 286 (66, [(0, zr 74), (2, zi (p : Int)), (3, zi (n : Int)), (4, zi ((r * 1103515245) + 12345)), (5, zi (k : Int))], [zi (k : Int), zi (26 * (p : Int)), zr 76], m) κ :=
  hT.1 [(38, [0, 2, 3, 4, 5])] 1 (D + 2) 286 _ κ h
theorem zt286_67 (hT : zRules T) {D : Nat} {κ : Option zA → zM → Prop} {m : zM} {p : Nat} {n : Nat} {r : Int} {k : Nat} (h : T (D + 2) 286 (69, [(0, zr 74), (2, zi (p : Int)), (3, zi (n : Int)), (4, zi ((r * 1103515245) + 12345)), (5, zi (k : Int))], [zi ((r * 1103515245) + 12345), zi ((26 * (p : Int)) + (k : Int)), zr 76], m) κ) :
    T (D + 2) 286 (67, [(0, zr 74), (2, zi (p : Int)), (3, zi (n : Int)), (4, zi ((r * 1103515245) + 12345)), (5, zi (k : Int))], [zi ((26 * (p : Int)) + (k : Int)), zr 76], m) κ :=
  hT.1 [(38, [0, 2, 3, 4, 5])] 1 (D + 2) 286 _ κ h
theorem zt286_69 (hT : zRules T) {D : Nat} {κ : Option zA → zM → Prop} {m : zM} {p : Nat} {n : Nat} {r : Int} {k : Nat} (h : T (D + 2) 286 (71, [(0, zr 74), (2, zi (p : Int)), (3, zi (n : Int)), (4, zi ((r * 1103515245) + 12345)), (5, zi (k : Int))], [zi 16, zi ((r * 1103515245) + 12345), zi ((26 * (p : Int)) + (k : Int)), zr 76], m) κ) :
    T (D + 2) 286 (69, [(0, zr 74), (2, zi (p : Int)), (3, zi (n : Int)), (4, zi ((r * 1103515245) + 12345)), (5, zi (k : Int))], [zi ((r * 1103515245) + 12345), zi ((26 * (p : Int)) + (k : Int)), zr 76], m) κ :=
  hT.1 [(38, [0, 2, 3, 4, 5])] 1 (D + 2) 286 _ κ h
theorem zt286_71 (hT : zRules T) {D : Nat} {κ : Option zA → zM → Prop} {m : zM} {p : Nat} {n : Nat} {r : Int} {k : Nat} (h : T (D + 2) 286 (72, [(0, zr 74), (2, zi (p : Int)), (3, zi (n : Int)), (4, zi ((r * 1103515245) + 12345)), (5, zi (k : Int))], [zi (z_ush ((r * 1103515245) + 12345) 16), zi ((26 * (p : Int)) + (k : Int)), zr 76], m) κ) :
    T (D + 2) 286 (71, [(0, zr 74), (2, zi (p : Int)), (3, zi (n : Int)), (4, zi ((r * 1103515245) + 12345)), (5, zi (k : Int))], [zi 16, zi ((r * 1103515245) + 12345), zi ((26 * (p : Int)) + (k : Int)), zr 76], m) κ :=
  hT.1 [(38, [0, 2, 3, 4, 5])] 1 (D + 2) 286 _ κ h
theorem zt286_72 (hT : zRules T) {D : Nat} {κ : Option zA → zM → Prop} {m : zM} {p : Nat} {n : Nat} {r : Int} {k : Nat} (h : T (D + 2) 286 (74, [(0, zr 74), (2, zi (p : Int)), (3, zi (n : Int)), (4, zi ((r * 1103515245) + 12345)), (5, zi (k : Int))], [zi 10, zi (z_ush ((r * 1103515245) + 12345) 16), zi ((26 * (p : Int)) + (k : Int)), zr 76], m) κ) :
    T (D + 2) 286 (72, [(0, zr 74), (2, zi (p : Int)), (3, zi (n : Int)), (4, zi ((r * 1103515245) + 12345)), (5, zi (k : Int))], [zi (z_ush ((r * 1103515245) + 12345) 16), zi ((26 * (p : Int)) + (k : Int)), zr 76], m) κ :=
  hT.1 [(38, [0, 2, 3, 4, 5])] 1 (D + 2) 286 _ κ h
theorem zt286_74 (hT : zRules T) {D : Nat} {κ : Option zA → zM → Prop} {m : zM} {p : Nat} {n : Nat} {r : Int} {k : Nat} (h : T (D + 2) 286 (75, [(0, zr 74), (2, zi (p : Int)), (3, zi (n : Int)), (4, zi ((r * 1103515245) + 12345)), (5, zi (k : Int))], [zi (Int.tmod (wr (z_ush ((r * 1103515245) + 12345) 16)) 10), zi ((26 * (p : Int)) + (k : Int)), zr 76], m) κ) :
    T (D + 2) 286 (74, [(0, zr 74), (2, zi (p : Int)), (3, zi (n : Int)), (4, zi ((r * 1103515245) + 12345)), (5, zi (k : Int))], [zi 10, zi (z_ush ((r * 1103515245) + 12345) 16), zi ((26 * (p : Int)) + (k : Int)), zr 76], m) κ :=
  hT.1 [(38, [0, 2, 3, 4, 5])] 1 (D + 2) 286 _ κ (And.intro (z_neL rfl) h)
theorem zt286_75 (hT : zRules T) {D : Nat} {κ : Option zA → zM → Prop} {m : zM} {p : Nat} {n : Nat} {r : Int} {k : Nat} (o : (0 ≤ wr ((26 * (p : Int)) + (k : Int)) ∧ wr ((26 * (p : Int)) + (k : Int)) < 104)) (h : T (D + 2) 286 (76, [(0, zr 74), (2, zi (p : Int)), (3, zi (n : Int)), (4, zi ((r * 1103515245) + 12345)), (5, zi (k : Int))], [], (zu m 76 ((wr ((26 * (p : Int)) + (k : Int))).toNat) (Int.tmod (wr (z_ush ((r * 1103515245) + 12345) 16)) 10))) κ) :
    T (D + 2) 286 (75, [(0, zr 74), (2, zi (p : Int)), (3, zi (n : Int)), (4, zi ((r * 1103515245) + 12345)), (5, zi (k : Int))], [zi (Int.tmod (wr (z_ush ((r * 1103515245) + 12345) 16)) 10), zi ((26 * (p : Int)) + (k : Int)), zr 76], m) κ :=
  hT.1 [(38, [0, 2, 3, 4, 5])] 1 (D + 2) 286 _ κ (And.intro (And.intro o trivial) h)
theorem zt286_76 (hT : zRules T) {D : Nat} {κ : Option zA → zM → Prop} {m : zM} {p : Nat} {n : Nat} {r : Int} {k : Nat} (h : T (D + 2) 286 (79, [(0, zr 74), (2, zi (p : Int)), (3, zi (n : Int)), (4, zi ((r * 1103515245) + 12345)), (5, zi ((k : Int) + 1))], [], (zu m 76 ((wr ((26 * (p : Int)) + (k : Int))).toNat) (Int.tmod (wr (z_ush ((r * 1103515245) + 12345) 16)) 10))) κ) :
    T (D + 2) 286 (76, [(0, zr 74), (2, zi (p : Int)), (3, zi (n : Int)), (4, zi ((r * 1103515245) + 12345)), (5, zi (k : Int))], [], (zu m 76 ((wr ((26 * (p : Int)) + (k : Int))).toNat) (Int.tmod (wr (z_ush ((r * 1103515245) + 12345) 16)) 10))) κ :=
  hT.1 [(38, [0, 2, 3, 4, 5])] 1 (D + 2) 286 _ κ h
theorem zt286_79 (hT : zRules T) {D : Nat} {κ : Option zA → zM → Prop} {m : zM} {p : Nat} {n : Nat} {r : Int} {k : Nat} (h : T (D + 2) 286 (38, [(0, zr 74), (2, zi (p : Int)), (3, zi (n : Int)), (4, zi ((r * 1103515245) + 12345)), (5, zi ((k : Int) + 1))], [], (zu m 76 ((wr ((26 * (p : Int)) + (k : Int))).toNat) (Int.tmod (wr (z_ush ((r * 1103515245) + 12345) 16)) 10))) κ) :
    T (D + 2) 286 (79, [(0, zr 74), (2, zi (p : Int)), (3, zi (n : Int)), (4, zi ((r * 1103515245) + 12345)), (5, zi ((k : Int) + 1))], [], (zu m 76 ((wr ((26 * (p : Int)) + (k : Int))).toNat) (Int.tmod (wr (z_ush ((r * 1103515245) + 12345) 16)) 10))) κ :=
  hT.1 [(38, [0, 2, 3, 4, 5])] 1 (D + 2) 286 _ κ h
theorem zd286 (hT : zRules T) {D : Nat} {κ : Option zA → zM → Prop} {m : zM} {p : Nat} {n : Nat} {r : Int} {k : Nat} (hp : p ≤ 3) (hk : k < 26) (h : T (D + 2) 286 (38, [(0, zr 74), (2, zi (p : Int)), (3, zi (n : Int)), (4, zi ((r * 1103515245) + 12345)), (5, zi ((k : Int) + 1))], [], (zu m 76 (26 * p + k) (Int.tmod (z_ush ((r * 1103515245) + 12345) 16) 10))) κ) :
    T (D + 2) 286 (44, [(0, zr 74), (2, zi (p : Int)), (3, zi (n : Int)), (4, zi r), (5, zi (k : Int))], [], m) κ := by
  have b1 := z_ushB ((r * 1103515245) + 12345) 16
  have e2 : wr (z_ush ((r * 1103515245) + 12345) 16) = z_ush ((r * 1103515245) + 12345) 16 := wr_id b1.1 b1.2
  have e3 : wr ((26 * (p : Int)) + (k : Int)) = ((26 * (p : Int)) + (k : Int)) := wr_id (by omega) (by omega)
  have e1 : (wr ((26 * (p : Int)) + (k : Int))).toNat = 26 * p + k := by rw [e3]; omega
  have ho : 0 ≤ wr ((26 * (p : Int)) + (k : Int)) ∧ wr ((26 * (p : Int)) + (k : Int)) < 104 := by rw [e3]; omega
  have h1 : T (D + 2) 286 (38, [(0, zr 74), (2, zi (p : Int)), (3, zi (n : Int)), (4, zi ((r * 1103515245) + 12345)), (5, zi ((k : Int) + 1))], [], (zu m 76 ((wr ((26 * (p : Int)) + (k : Int))).toNat) (Int.tmod (wr (z_ush ((r * 1103515245) + 12345) 16)) 10))) κ := by
    rw [e1, e2]
    exact h
  exact (zt286_44 hT (zt286_46 hT (zt286_49 hT (zt286_50 hT (zt286_53 hT (zt286_54 hT (zt286_56 hT (zt286_57 hT (zt286_60 hT (zt286_62 hT (zt286_63 hT (zt286_64 hT (zt286_66 hT (zt286_67 hT (zt286_69 hT (zt286_71 hT (zt286_72 hT (zt286_74 hT (zt286_75 hT ho (zt286_76 hT (zt286_79 hT h1)))))))))))))))))))))
end ZBlocks
