section ZBlocks
variable {T : Nat → Nat → zG → (Option zA → zM → Prop) → Prop}
theorem zb92_0r (hT : zRules T) {D : Nat} {κ : Option zA → zM → Prop} {m : zM} {v : Int} 
    (o1 : T (D + 2) 92 (4, [(0, zr 52), (1, zi v), (2, zi (-1)), (3, zi 0)], [], m) κ) :
    T (D + 2) 92 (0, [(0, zr 52), (1, zi v)], [], m) κ :=
  hT.1 [(4, [0, 1, 2, 3])] 6 (D + 2) 92 _ κ (o1)
theorem zb92_0 (hT : zRules T) {D : Nat} {κ : Option zA → zM → Prop} {m : zM} {v : Int}  (hB : zB m) (h_v : (-1) ≤ v ∧ v ≤ 200) 
    (k1 : T (D + 2) 92 (4, [(0, zr 52), (1, zi v), (2, zi (-1)), (3, zi 0)], [], m) κ) :
    T (D + 2) 92 (0, [(0, zr 52), (1, zi v)], [], m) κ := by
  exact zb92_0r hT
    k1
theorem zb92_4r (hT : zRules T) {D : Nat} {κ : Option zA → zM → Prop} {m : zM} {v : Int} {f : Int} {i : Nat} {lo : zL} (hlo : z_keep [0, 1, 2, 3] lo = [(0, zr 52), (1, zi v), (2, zi f), (3, zi (i : Int))]) 
    (o1 : ¬ wr (i : Int) < wr (m 52 1) → κ (some (zi (wr f))) m)
    (o2 : wr (i : Int) < wr (m 52 1) → (0 ≤ wr (i : Int) ∧ wr (i : Int) < 60))
    (o3 : wr (i : Int) < wr (m 52 1) → wr (m 53 ((wr (i : Int)).toNat)) < wr v → T (D + 2) 92 (4, [(0, zr 52), (1, zi v), (2, zi f), (3, zi ((i : Int) + 1))], [], m) κ)
    (o4 : wr (i : Int) < wr (m 52 1) → ¬ wr (m 53 ((wr (i : Int)).toNat)) < wr v → wr f = (-1) → (0 ≤ wr (i : Int) ∧ wr (i : Int) < 60))
    (o5 : wr (i : Int) < wr (m 52 1) → ¬ wr (m 53 ((wr (i : Int)).toNat)) < wr v → wr f = (-1) → T (D + 2) 92 (4, [(0, zr 52), (1, zi v), (2, zi (m 53 ((wr (i : Int)).toNat))), (3, zi ((i : Int) + 1))], [], m) κ)
    (o6 : wr (i : Int) < wr (m 52 1) → ¬ wr (m 53 ((wr (i : Int)).toNat)) < wr v → ¬ wr f = (-1) → (0 ≤ wr (i : Int) ∧ wr (i : Int) < 60))
    (o7 : wr (i : Int) < wr (m 52 1) → ¬ wr (m 53 ((wr (i : Int)).toNat)) < wr v → ¬ wr f = (-1) → ¬ wr (m 53 ((wr (i : Int)).toNat)) < wr f → T (D + 2) 92 (4, [(0, zr 52), (1, zi v), (2, zi f), (3, zi ((i : Int) + 1))], [], m) κ)
    (o8 : wr (i : Int) < wr (m 52 1) → ¬ wr (m 53 ((wr (i : Int)).toNat)) < wr v → ¬ wr f = (-1) → wr (m 53 ((wr (i : Int)).toNat)) < wr f → (0 ≤ wr (i : Int) ∧ wr (i : Int) < 60))
    (o9 : wr (i : Int) < wr (m 52 1) → ¬ wr (m 53 ((wr (i : Int)).toNat)) < wr v → ¬ wr f = (-1) → wr (m 53 ((wr (i : Int)).toNat)) < wr f → T (D + 2) 92 (4, [(0, zr 52), (1, zi v), (2, zi (m 53 ((wr (i : Int)).toNat))), (3, zi ((i : Int) + 1))], [], m) κ) :
    T (D + 2) 92 (4, lo, [], m) κ :=
  zkeep hT hlo (hT.1 [(4, [0, 1, 2, 3])] 6 (D + 2) 92 _ κ (And.intro (fun a1 => (o1 a1)) (fun a2 => (hT.1 [(4, [0, 1, 2, 3])] 6 (D + 2) 92 (16, [(0, zr 52), (1, zi v), (2, zi f), (3, zi (i : Int))], [zr 53], m) _ (And.intro (o2 (Classical.byContradiction a2)) (And.intro (fun a3 => (o3 (Classical.byContradiction a2) a3)) (fun a4 => (hT.1 [(4, [0, 1, 2, 3])] 6 (D + 2) 92 (24, [(0, zr 52), (1, zi v), (2, zi f), (3, zi (i : Int))], [zi (-1), zi f], m) _ (And.intro (fun a5 => (And.intro (o4 (Classical.byContradiction a2) a4 a5) (hT.1 [(4, [0, 1, 2, 3])] 6 (D + 2) 92 (44, [(0, zr 52), (1, zi v), (2, zi (m 53 ((wr (i : Int)).toNat))), (3, zi (i : Int))], [], m) _ (o5 (Classical.byContradiction a2) a4 a5)))) (fun a6 => (And.intro (o6 (Classical.byContradiction a2) a4 a6) (hT.1 [(4, [0, 1, 2, 3])] 6 (D + 2) 92 (34, [(0, zr 52), (1, zi v), (2, zi f), (3, zi (i : Int))], [zi f, zi (m 53 ((wr (i : Int)).toNat))], m) _ (And.intro (fun a7 => (o7 (Classical.byContradiction a2) a4 a6 a7)) (fun a8 => (And.intro (o8 (Classical.byContradiction a2) a4 a6 (Classical.byContradiction a8)) (hT.1 [(4, [0, 1, 2, 3])] 6 (D + 2) 92 (44, [(0, zr 52), (1, zi v), (2, zi (m 53 ((wr (i : Int)).toNat))), (3, zi (i : Int))], [], m) _ (o9 (Classical.byContradiction a2) a4 a6 (Classical.byContradiction a8))))))))))))))))))
theorem zb92_4 (hT : zRules T) {D : Nat} {κ : Option zA → zM → Prop} {m : zM} {v : Int} {f : Int} {i : Nat} {lo : zL} (hlo : z_keep [0, 1, 2, 3] lo = [(0, zr 52), (1, zi v), (2, zi f), (3, zi (i : Int))])  (hB : zB m) (h_v : (-1) ≤ v ∧ v ≤ 200) (h_f : (-1) ≤ f ∧ f ≤ 99) (h_i : i ≤ 60) 
    (k1 : ¬ (i : Int) < (m 52 1) → κ (some (zi f)) m)
    (k2 : (i : Int) < (m 52 1) → (m 53 i) < v → T (D + 2) 92 (4, [(0, zr 52), (1, zi v), (2, zi f), (3, zi ((i : Int) + 1))], [], m) κ)
    (k3 : (i : Int) < (m 52 1) → ¬ (m 53 i) < v → f = (-1) → T (D + 2) 92 (4, [(0, zr 52), (1, zi v), (2, zi (m 53 i)), (3, zi ((i : Int) + 1))], [], m) κ)
    (k4 : (i : Int) < (m 52 1) → ¬ (m 53 i) < v → ¬ f = (-1) → ¬ (m 53 i) < f → T (D + 2) 92 (4, [(0, zr 52), (1, zi v), (2, zi f), (3, zi ((i : Int) + 1))], [], m) κ)
    (k5 : (i : Int) < (m 52 1) → ¬ (m 53 i) < v → ¬ f = (-1) → (m 53 i) < f → T (D + 2) 92 (4, [(0, zr 52), (1, zi v), (2, zi (m 53 i)), (3, zi ((i : Int) + 1))], [], m) κ) :
    T (D + 2) 92 (4, lo, [], m) κ := by
  have hb3 : 0 ≤ (m 52 1) ∧ (m 52 1) ≤ 60 := hB 52 1
  have hb4 : 0 ≤ (m 53 i) ∧ (m 53 i) ≤ 99 := hB 53 i
  have he0 : wr (i : Int) = (i : Int) := wr_id (by omega) (by omega)
  have he1 : wr (m 52 1) = (m 52 1) := wr_id (by omega) (by omega)
  have he2 : (i : Int).toNat = i := by omega
  have he3 : wr (m 53 i) = (m 53 i) := wr_id (by omega) (by omega)
  have he4 : wr v = v := wr_id (by omega) (by omega)
  have he5 : wr f = f := wr_id (by omega) (by omega)
  have key := @zb92_4r T hT D κ m v f i lo hlo
  simp only [he0, he1, he2, he3, he4, he5, Int.toNat_natCast] at key
  exact key
    k1
    (fun x0 => by refine ⟨?_, ?_⟩ <;> omega)
    k2
    (fun x0 x1 x2 => by refine ⟨?_, ?_⟩ <;> omega)
    k3
    (fun x0 x1 x2 => by refine ⟨?_, ?_⟩ <;> omega)
    k4
    (fun x0 x1 x2 x3 => by refine ⟨?_, ?_⟩ <;> omega)
    k5
theorem zb93_0r (hT : zRules T) {D : Nat} {κ : Option zA → zM → Prop} {m : zM} {v : Int} {h : Int} 
    (o1 : T (D + 2) 92 (0, [(0, zr 52), (1, zi v)], [], m) (fun r m1 => T (D + 3) 93 (7, [(0, zr 52), (1, zi v), (2, zi h), (3, zi 0)], r.toList ++ [], m1) κ)) :
    T (D + 3) 93 (0, [(0, zr 52), (1, zi v), (2, zi h)], [], m) κ :=
  hT.1 [(12, [0, 2, 3, 4, 5])] 6 (D + 3) 93 _ κ (o1)
theorem zb93_0 (hT : zRules T) {D : Nat} {κ : Option zA → zM → Prop} {m : zM} {v : Int} {h : Int}  (hB : zB m) (h_v : (-1) ≤ v ∧ v ≤ 200) (h_h : 0 ≤ h ∧ h ≤ 9) 
    (k1 : T (D + 2) 92 (0, [(0, zr 52), (1, zi v)], [], m) (fun r m1 => T (D + 3) 93 (7, [(0, zr 52), (1, zi v), (2, zi h), (3, zi 0)], r.toList ++ [], m1) κ)) :
    T (D + 3) 93 (0, [(0, zr 52), (1, zi v), (2, zi h)], [], m) κ := by
  exact zb93_0r hT
    k1
theorem zb93_7r (hT : zRules T) {D : Nat} {κ : Option zA → zM → Prop} {m : zM} {h : Int} {c : Nat} {v : Int} {lo : zL} (hlo : z_keep [0, 2, 3] lo = [(0, zr 52), (2, zi h), (3, zi (c : Int))]) 
    (o1 : T (D + 3) 93 (12, [(0, zr 52), (2, zi h), (3, zi (c : Int)), (4, zi v), (5, zi 0)], [], m) κ) :
    T (D + 3) 93 (7, lo, [zi v], m) κ :=
  zkeep hT hlo (hT.1 [(12, [0, 2, 3, 4, 5])] 6 (D + 3) 93 _ κ (o1))
theorem zb93_7 (hT : zRules T) {D : Nat} {κ : Option zA → zM → Prop} {m : zM} {h : Int} {c : Nat} {v : Int} {lo : zL} (hlo : z_keep [0, 2, 3] lo = [(0, zr 52), (2, zi h), (3, zi (c : Int))])  (hB : zB m) (h_h : 0 ≤ h ∧ h ≤ 9) (h_c : c ≤ 60) (h_v : (-1) ≤ v ∧ v ≤ 99) 
    (k1 : T (D + 3) 93 (12, [(0, zr 52), (2, zi h), (3, zi (c : Int)), (4, zi v), (5, zi 0)], [], m) κ) :
    T (D + 3) 93 (7, lo, [zi v], m) κ := by
  exact zb93_7r hT hlo
    k1
theorem zb93_12r (hT : zRules T) {D : Nat} {κ : Option zA → zM → Prop} {m : zM} {h : Int} {c : Nat} {v : Int} {i : Nat} {lo : zL} (hlo : z_keep [0, 2, 3, 4, 5] lo = [(0, zr 52), (2, zi h), (3, zi (c : Int)), (4, zi v), (5, zi (i : Int))]) 
    (o1 : ¬ wr (i : Int) < wr (m 52 1) → κ (some (zi (wr (c : Int)))) m)
    (o2 : wr (i : Int) < wr (m 52 1) → wr v = (-1) → κ (some (zi (wr (c : Int)))) m)
    (o3 : wr (i : Int) < wr (m 52 1) → ¬ wr v = (-1) → T (D + 2) 92 (0, [(0, zr 52), (1, zi ((v + h) + 1))], [], m) (fun r m1 => T (D + 3) 93 (40, [(0, zr 52), (2, zi h), (3, zi ((c : Int) + 1)), (4, zi v), (5, zi (i : Int))], r.toList ++ [], m1) κ)) :
    T (D + 3) 93 (12, lo, [], m) κ :=
  zkeep hT hlo (hT.1 [(12, [0, 2, 3, 4, 5])] 6 (D + 3) 93 _ κ (And.intro (fun a1 => (o1 a1)) (fun a2 => (hT.1 [(12, [0, 2, 3, 4, 5])] 6 (D + 3) 93 (24, [(0, zr 52), (2, zi h), (3, zi (c : Int)), (4, zi v), (5, zi (i : Int))], [zi (-1), zi v], m) _ (And.intro (fun a3 => (o2 (Classical.byContradiction a2) a3)) (fun a4 => (hT.1 [(12, [0, 2, 3, 4, 5])] 6 (D + 3) 93 (35, [(0, zr 52), (2, zi h), (3, zi ((c : Int) + 1)), (4, zi v), (5, zi (i : Int))], [zi (v + h), zr 52], m) _ (o3 (Classical.byContradiction a2) a4))))))))
theorem zb93_12 (hT : zRules T) {D : Nat} {κ : Option zA → zM → Prop} {m : zM} {h : Int} {c : Nat} {v : Int} {i : Nat} {lo : zL} (hlo : z_keep [0, 2, 3, 4, 5] lo = [(0, zr 52), (2, zi h), (3, zi (c : Int)), (4, zi v), (5, zi (i : Int))])  (hB : zB m) (h_h : 0 ≤ h ∧ h ≤ 9) (h_c : c ≤ 60) (h_v : (-1) ≤ v ∧ v ≤ 99) (h_i : i ≤ 60) 
    (k1 : ¬ (i : Int) < (m 52 1) → κ (some (zi (c : Int))) m)
    (k2 : (i : Int) < (m 52 1) → v = (-1) → κ (some (zi (c : Int))) m)
    (k3 : (i : Int) < (m 52 1) → ¬ v = (-1) → T (D + 2) 92 (0, [(0, zr 52), (1, zi ((v + h) + 1))], [], m) (fun r m1 => T (D + 3) 93 (40, [(0, zr 52), (2, zi h), (3, zi ((c : Int) + 1)), (4, zi v), (5, zi (i : Int))], r.toList ++ [], m1) κ)) :
    T (D + 3) 93 (12, lo, [], m) κ := by
  have hb4 : 0 ≤ (m 52 1) ∧ (m 52 1) ≤ 60 := hB 52 1
  have he0 : wr (i : Int) = (i : Int) := wr_id (by omega) (by omega)
  have he1 : wr (m 52 1) = (m 52 1) := wr_id (by omega) (by omega)
  have he2 : wr v = v := wr_id (by omega) (by omega)
  have he3 : wr (c : Int) = (c : Int) := wr_id (by omega) (by omega)
  have key := @zb93_12r T hT D κ m h c v i lo hlo
  simp only [he0, he1, he2, he3, Int.toNat_natCast] at key
  exact key
    k1
    k2
    k3
theorem zb93_40r (hT : zRules T) {D : Nat} {κ : Option zA → zM → Prop} {m : zM} {h : Int} {c : Nat} {v : Int} {i : Nat} {lo : zL} (hlo : z_keep [0, 2, 3, 5] lo = [(0, zr 52), (2, zi h), (3, zi (c : Int)), (5, zi (i : Int))]) 
    (o1 : T (D + 3) 93 (12, [(0, zr 52), (2, zi h), (3, zi (c : Int)), (4, zi v), (5, zi ((i : Int) + 1))], [], m) κ) :
    T (D + 3) 93 (40, lo, [zi v], m) κ :=
  zkeep hT hlo (hT.1 [(12, [0, 2, 3, 4, 5])] 6 (D + 3) 93 _ κ (o1))
theorem zb93_40 (hT : zRules T) {D : Nat} {κ : Option zA → zM → Prop} {m : zM} {h : Int} {c : Nat} {v : Int} {i : Nat} {lo : zL} (hlo : z_keep [0, 2, 3, 5] lo = [(0, zr 52), (2, zi h), (3, zi (c : Int)), (5, zi (i : Int))])  (hB : zB m) (h_h : 0 ≤ h ∧ h ≤ 9) (h_c : c ≤ 60) (h_v : (-1) ≤ v ∧ v ≤ 99) (h_i : i ≤ 60) 
    (k1 : T (D + 3) 93 (12, [(0, zr 52), (2, zi h), (3, zi (c : Int)), (4, zi v), (5, zi ((i : Int) + 1))], [], m) κ) :
    T (D + 3) 93 (40, lo, [zi v], m) κ := by
  exact zb93_40r hT hlo
    k1
theorem zb91_0r (hT : zRules T) {D : Nat} {κ : Option zA → zM → Prop} {m : zM} {h : Int} 
    (o1 : T (D + 3) 93 (0, [(0, zr 52), (1, zi 0), (2, zi h)], [], m) (fun r m1 => T (D + 4) 91 (6, [(0, zr 52), (1, zi h)], r.toList ++ [], m1) κ)) :
    T (D + 4) 91 (0, [(0, zr 52), (1, zi h)], [], m) κ :=
  hT.1 [(16, [0, 1, 2, 3, 4]), (35, [0, 1, 2, 3, 4, 5])] 6 (D + 4) 91 _ κ (o1)
theorem zb91_0 (hT : zRules T) {D : Nat} {κ : Option zA → zM → Prop} {m : zM} {h : Int}  (hB : zB m) (h_h : 0 ≤ h ∧ h ≤ 9) 
    (k1 : T (D + 3) 93 (0, [(0, zr 52), (1, zi 0), (2, zi h)], [], m) (fun r m1 => T (D + 4) 91 (6, [(0, zr 52), (1, zi h)], r.toList ++ [], m1) κ)) :
    T (D + 4) 91 (0, [(0, zr 52), (1, zi h)], [], m) κ := by
  exact zb91_0r hT
    k1
theorem zb91_6r (hT : zRules T) {D : Nat} {κ : Option zA → zM → Prop} {m : zM} {h : Int} {n : Nat} {lo : zL} (hlo : z_keep [0, 1] lo = [(0, zr 52), (1, zi h)]) 
    (o1 : T (D + 3) 92 (0, [(0, zr 52), (1, zi 0)], [], m) (fun r m1 => T (D + 4) 91 (12, [(0, zr 52), (1, zi h), (2, zi (n : Int))], r.toList ++ [], m1) κ)) :
    T (D + 4) 91 (6, lo, [zi (n : Int)], m) κ :=
  zkeep hT hlo (hT.1 [(16, [0, 1, 2, 3, 4]), (35, [0, 1, 2, 3, 4, 5])] 6 (D + 4) 91 _ κ (o1))
theorem zb91_6 (hT : zRules T) {D : Nat} {κ : Option zA → zM → Prop} {m : zM} {h : Int} {n : Nat} {lo : zL} (hlo : z_keep [0, 1] lo = [(0, zr 52), (1, zi h)])  (hB : zB m) (h_h : 0 ≤ h ∧ h ≤ 9) (h_n : n ≤ 60) 
    (k1 : T (D + 3) 92 (0, [(0, zr 52), (1, zi 0)], [], m) (fun r m1 => T (D + 4) 91 (12, [(0, zr 52), (1, zi h), (2, zi (n : Int))], r.toList ++ [], m1) κ)) :
    T (D + 4) 91 (6, lo, [zi (n : Int)], m) κ := by
  exact zb91_6r hT hlo
    k1
theorem zb91_12r (hT : zRules T) {D : Nat} {κ : Option zA → zM → Prop} {m : zM} {h : Int} {n : Nat} {a : Int} {lo : zL} (hlo : z_keep [0, 1, 2] lo = [(0, zr 52), (1, zi h), (2, zi (n : Int))]) 
    (o1 : T (D + 4) 91 (16, [(0, zr 52), (1, zi h), (2, zi (n : Int)), (3, zi a), (4, zi 0)], [], m) κ) :
    T (D + 4) 91 (12, lo, [zi a], m) κ :=
  zkeep hT hlo (hT.1 [(16, [0, 1, 2, 3, 4]), (35, [0, 1, 2, 3, 4, 5])] 6 (D + 4) 91 _ κ (o1))
theorem zb91_12 (hT : zRules T) {D : Nat} {κ : Option zA → zM → Prop} {m : zM} {h : Int} {n : Nat} {a : Int} {lo : zL} (hlo : z_keep [0, 1, 2] lo = [(0, zr 52), (1, zi h), (2, zi (n : Int))])  (hB : zB m) (h_h : 0 ≤ h ∧ h ≤ 9) (h_n : n ≤ 60) (h_a : (-1) ≤ a ∧ a ≤ 99) 
    (k1 : T (D + 4) 91 (16, [(0, zr 52), (1, zi h), (2, zi (n : Int)), (3, zi a), (4, zi 0)], [], m) κ) :
    T (D + 4) 91 (12, lo, [zi a], m) κ := by
  exact zb91_12r hT hlo
    k1
theorem zb91_16r (hT : zRules T) {D : Nat} {κ : Option zA → zM → Prop} {m : zM} {h : Int} {n : Nat} {a : Int} {i : Nat} {lo : zL} (hlo : z_keep [0, 1, 2, 3, 4] lo = [(0, zr 52), (1, zi h), (2, zi (n : Int)), (3, zi a), (4, zi (i : Int))]) 
    (o1 : ¬ wr (i : Int) < wr (n : Int) → κ (some (zi (wr (n : Int)))) m)
    (o2 : wr (i : Int) < wr (n : Int) → ¬ wr (i : Int) < 26 → κ (some (zi (wr (n : Int)))) m)
    (o3 : wr (i : Int) < wr (n : Int) → wr (i : Int) < 26 → T (D + 4) 91 (35, [(0, zr 52), (1, zi h), (2, zi (n : Int)), (3, zi a), (4, zi (i : Int)), (5, zi a)], [], m) κ) :
    T (D + 4) 91 (16, lo, [], m) κ :=
  zkeep hT hlo (hT.1 [(16, [0, 1, 2, 3, 4]), (35, [0, 1, 2, 3, 4, 5])] 6 (D + 4) 91 _ κ (And.intro (fun a1 => (o1 a1)) (fun a2 => (hT.1 [(16, [0, 1, 2, 3, 4]), (35, [0, 1, 2, 3, 4, 5])] 6 (D + 4) 91 (28, [(0, zr 52), (1, zi h), (2, zi (n : Int)), (3, zi a), (4, zi (i : Int))], [zr 58, zi (i : Int)], m) _ (And.intro (fun a3 => (o2 (Classical.byContradiction a2) a3)) (fun a4 => (o3 (Classical.byContradiction a2) (Classical.byContradiction a4))))))))
theorem zb91_16 (hT : zRules T) {D : Nat} {κ : Option zA → zM → Prop} {m : zM} {h : Int} {n : Nat} {a : Int} {i : Nat} {lo : zL} (hlo : z_keep [0, 1, 2, 3, 4] lo = [(0, zr 52), (1, zi h), (2, zi (n : Int)), (3, zi a), (4, zi (i : Int))])  (hB : zB m) (h_h : 0 ≤ h ∧ h ≤ 9) (h_n : n ≤ 60) (h_a : (-1) ≤ a ∧ a ≤ 99) (h_i : i ≤ 60) 
    (k1 : ¬ (i : Int) < (n : Int) → κ (some (zi (n : Int))) m)
    (k2 : (i : Int) < (n : Int) → ¬ (i : Int) < 26 → κ (some (zi (n : Int))) m)
    (k3 : (i : Int) < (n : Int) → (i : Int) < 26 → T (D + 4) 91 (35, [(0, zr 52), (1, zi h), (2, zi (n : Int)), (3, zi a), (4, zi (i : Int)), (5, zi a)], [], m) κ) :
    T (D + 4) 91 (16, lo, [], m) κ := by
  have he0 : wr (i : Int) = (i : Int) := wr_id (by omega) (by omega)
  have he1 : wr (n : Int) = (n : Int) := wr_id (by omega) (by omega)
  have key := @zb91_16r T hT D κ m h n a i lo hlo
  simp only [he0, he1, Int.toNat_natCast] at key
  exact key
    k1
    k2
    k3
theorem zb91_35r (hT : zRules T) {D : Nat} {κ : Option zA → zM → Prop} {m : zM} {h : Int} {n : Nat} {a : Int} {i : Nat} {b : Int} {lo : zL} (hlo : z_keep [0, 1, 2, 3, 4, 5] lo = [(0, zr 52), (1, zi h), (2, zi (n : Int)), (3, zi a), (4, zi (i : Int)), (5, zi b)]) 
    (o1 : ¬ wr b < wr (a + h) → (0 ≤ wr (i : Int) ∧ wr (i : Int) < 26))
    (o2 : ¬ wr b < wr (a + h) → T (D + 3) 92 (0, [(0, zr 52), (1, zi (b + 1))], [], (zu m 58 ((wr (i : Int)).toNat) b)) (fun r m1 => T (D + 4) 91 (84, [(0, zr 52), (1, zi h), (2, zi (n : Int)), (3, zi a), (4, zi (i : Int)), (5, zi b)], r.toList ++ [], m1) κ))
    (o3 : wr b < wr (a + h) → T (D + 3) 93 (0, [(0, zr 52), (1, zi (b + 1)), (2, zi h)], [], m) (fun r m1 => T (D + 4) 91 (52, [(0, zr 52), (1, zi h), (2, zi (n : Int)), (3, zi a), (4, zi (i : Int)), (5, zi b)], r.toList ++ [], m1) κ)) :
    T (D + 4) 91 (35, lo, [], m) κ :=
  zkeep hT hlo (hT.1 [(16, [0, 1, 2, 3, 4]), (35, [0, 1, 2, 3, 4, 5])] 6 (D + 4) 91 _ κ (And.intro (fun a1 => (hT.1 [(16, [0, 1, 2, 3, 4]), (35, [0, 1, 2, 3, 4, 5])] 6 (D + 4) 91 (68, [(0, zr 52), (1, zi h), (2, zi (n : Int)), (3, zi a), (4, zi (i : Int)), (5, zi b)], [zr 52], m) _ (And.intro (And.intro (o1 a1) trivial) (hT.1 [(16, [0, 1, 2, 3, 4]), (35, [0, 1, 2, 3, 4, 5])] 6 (D + 4) 91 (79, [(0, zr 52), (1, zi h), (2, zi (n : Int)), (3, zi a), (4, zi (i : Int)), (5, zi b)], [zi b, zr 52], (zu m 58 ((wr (i : Int)).toNat) b)) _ (o2 a1))))) (fun a2 => (hT.1 [(16, [0, 1, 2, 3, 4]), (35, [0, 1, 2, 3, 4, 5])] 6 (D + 4) 91 (44, [(0, zr 52), (1, zi h), (2, zi (n : Int)), (3, zi a), (4, zi (i : Int)), (5, zi b)], [zr 52], m) _ (o3 (Classical.byContradiction a2))))))
theorem zb91_35 (hT : zRules T) {D : Nat} {κ : Option zA → zM → Prop} {m : zM} {h : Int} {n : Nat} {a : Int} {i : Nat} {b : Int} {lo : zL} (hlo : z_keep [0, 1, 2, 3, 4, 5] lo = [(0, zr 52), (1, zi h), (2, zi (n : Int)), (3, zi a), (4, zi (i : Int)), (5, zi b)])  (hB : zB m) (h_h : 0 ≤ h ∧ h ≤ 9) (h_n : n ≤ 60) (h_a : (-1) ≤ a ∧ a ≤ 99) (h_i : i ≤ 60) (h_b : (-1) ≤ b ∧ b ≤ 108) 
    (k1 : ¬ b < (a + h) → (0 ≤ (i : Int) ∧ (i : Int) < 26))
    (k2 : ¬ b < (a + h) → zB (zu m 58 i b) → T (D + 3) 92 (0, [(0, zr 52), (1, zi (b + 1))], [], (zu m 58 i b)) (fun r m1 => T (D + 4) 91 (84, [(0, zr 52), (1, zi h), (2, zi (n : Int)), (3, zi a), (4, zi (i : Int)), (5, zi b)], r.toList ++ [], m1) κ))
    (k3 : b < (a + h) → T (D + 3) 93 (0, [(0, zr 52), (1, zi (b + 1)), (2, zi h)], [], m) (fun r m1 => T (D + 4) 91 (52, [(0, zr 52), (1, zi h), (2, zi (n : Int)), (3, zi a), (4, zi (i : Int)), (5, zi b)], r.toList ++ [], m1) κ)) :
    T (D + 4) 91 (35, lo, [], m) κ := by
  have he0 : wr b = b := wr_id (by omega) (by omega)
  have he1 : wr (a + h) = (a + h) := wr_id (by omega) (by omega)
  have he2 : wr (i : Int) = (i : Int) := wr_id (by omega) (by omega)
  have he3 : (i : Int).toNat = i := by omega
  have key := @zb91_35r T hT D κ m h n a i b lo hlo
  simp only [he0, he1, he2, he3, Int.toNat_natCast] at key
  exact key
    k1
    (fun x0 => k2 x0 (zB_u hB trivial))
    k3
theorem zb91_52r (hT : zRules T) {D : Nat} {κ : Option zA → zM → Prop} {m : zM} {h : Int} {n : Nat} {a : Int} {i : Nat} {b : Int} {v : Nat} {lo : zL} (hlo : z_keep [0, 1, 2, 3, 4, 5] lo = [(0, zr 52), (1, zi h), (2, zi (n : Int)), (3, zi a), (4, zi (i : Int)), (5, zi b)]) 
    (o1 : ¬ wr (((n : Int) - (i : Int)) - 1) < wr (v : Int) → (0 ≤ wr (i : Int) ∧ wr (i : Int) < 26))
    (o2 : ¬ wr (((n : Int) - (i : Int)) - 1) < wr (v : Int) → T (D + 3) 92 (0, [(0, zr 52), (1, zi (b + 1))], [], (zu m 58 ((wr (i : Int)).toNat) b)) (fun r m1 => T (D + 4) 91 (84, [(0, zr 52), (1, zi h), (2, zi (n : Int)), (3, zi a), (4, zi (i : Int)), (5, zi b)], r.toList ++ [], m1) κ))
    (o3 : wr (((n : Int) - (i : Int)) - 1) < wr (v : Int) → T (D + 4) 91 (35, [(0, zr 52), (1, zi h), (2, zi (n : Int)), (3, zi a), (4, zi (i : Int)), (5, zi (b + 1))], [], m) κ) :
    T (D + 4) 91 (52, lo, [zi (v : Int)], m) κ :=
  zkeep hT hlo (hT.1 [(16, [0, 1, 2, 3, 4]), (35, [0, 1, 2, 3, 4, 5])] 6 (D + 4) 91 _ κ (And.intro (fun a1 => (hT.1 [(16, [0, 1, 2, 3, 4]), (35, [0, 1, 2, 3, 4, 5])] 6 (D + 4) 91 (67, [(0, zr 52), (1, zi h), (2, zi (n : Int)), (3, zi a), (4, zi (i : Int)), (5, zi b)], [], m) _ (And.intro (And.intro (o1 a1) trivial) (hT.1 [(16, [0, 1, 2, 3, 4]), (35, [0, 1, 2, 3, 4, 5])] 6 (D + 4) 91 (77, [(0, zr 52), (1, zi h), (2, zi (n : Int)), (3, zi a), (4, zi (i : Int)), (5, zi b)], [zr 52], (zu m 58 ((wr (i : Int)).toNat) b)) _ (o2 a1))))) (fun a2 => (hT.1 [(16, [0, 1, 2, 3, 4]), (35, [0, 1, 2, 3, 4, 5])] 6 (D + 4) 91 (61, [(0, zr 52), (1, zi h), (2, zi (n : Int)), (3, zi a), (4, zi (i : Int)), (5, zi b)], [], m) _ (o3 (Classical.byContradiction a2))))))
theorem zb91_52 (hT : zRules T) {D : Nat} {κ : Option zA → zM → Prop} {m : zM} {h : Int} {n : Nat} {a : Int} {i : Nat} {b : Int} {v : Nat} {lo : zL} (hlo : z_keep [0, 1, 2, 3, 4, 5] lo = [(0, zr 52), (1, zi h), (2, zi (n : Int)), (3, zi a), (4, zi (i : Int)), (5, zi b)])  (hB : zB m) (h_h : 0 ≤ h ∧ h ≤ 9) (h_n : n ≤ 60) (h_a : (-1) ≤ a ∧ a ≤ 99) (h_i : i ≤ 60) (h_b : (-1) ≤ b ∧ b ≤ 108) (h_v : v ≤ 60) 
    (k1 : ¬ (((n : Int) - (i : Int)) - 1) < (v : Int) → (0 ≤ (i : Int) ∧ (i : Int) < 26))
    (k2 : ¬ (((n : Int) - (i : Int)) - 1) < (v : Int) → zB (zu m 58 i b) → T (D + 3) 92 (0, [(0, zr 52), (1, zi (b + 1))], [], (zu m 58 i b)) (fun r m1 => T (D + 4) 91 (84, [(0, zr 52), (1, zi h), (2, zi (n : Int)), (3, zi a), (4, zi (i : Int)), (5, zi b)], r.toList ++ [], m1) κ))
    (k3 : (((n : Int) - (i : Int)) - 1) < (v : Int) → T (D + 4) 91 (35, [(0, zr 52), (1, zi h), (2, zi (n : Int)), (3, zi a), (4, zi (i : Int)), (5, zi (b + 1))], [], m) κ) :
    T (D + 4) 91 (52, lo, [zi (v : Int)], m) κ := by
  have he0 : wr (((n : Int) - (i : Int)) - 1) = (((n : Int) - (i : Int)) - 1) := wr_id (by omega) (by omega)
  have he1 : wr (v : Int) = (v : Int) := wr_id (by omega) (by omega)
  have he2 : wr (i : Int) = (i : Int) := wr_id (by omega) (by omega)
  have he3 : (i : Int).toNat = i := by omega
  have key := @zb91_52r T hT D κ m h n a i b v lo hlo
  simp only [he0, he1, he2, he3, Int.toNat_natCast] at key
  exact key
    k1
    (fun x0 => k2 x0 (zB_u hB trivial))
    k3
theorem zb91_84r (hT : zRules T) {D : Nat} {κ : Option zA → zM → Prop} {m : zM} {h : Int} {n : Nat} {i : Nat} {v : Int} {lo : zL} (hlo : z_keep [0, 1, 2, 4] lo = [(0, zr 52), (1, zi h), (2, zi (n : Int)), (4, zi (i : Int))]) 
    (o1 : T (D + 4) 91 (16, [(0, zr 52), (1, zi h), (2, zi (n : Int)), (3, zi v), (4, zi ((i : Int) + 1))], [], m) κ) :
    T (D + 4) 91 (84, lo, [zi v], m) κ :=
  zkeep hT hlo (hT.1 [(16, [0, 1, 2, 3, 4]), (35, [0, 1, 2, 3, 4, 5])] 6 (D + 4) 91 _ κ (o1))
theorem zb91_84 (hT : zRules T) {D : Nat} {κ : Option zA → zM → Prop} {m : zM} {h : Int} {n : Nat} {i : Nat} {v : Int} {lo : zL} (hlo : z_keep [0, 1, 2, 4] lo = [(0, zr 52), (1, zi h), (2, zi (n : Int)), (4, zi (i : Int))])  (hB : zB m) (h_h : 0 ≤ h ∧ h ≤ 9) (h_n : n ≤ 60) (h_i : i ≤ 60) (h_v : (-1) ≤ v ∧ v ≤ 99) 
    (k1 : T (D + 4) 91 (16, [(0, zr 52), (1, zi h), (2, zi (n : Int)), (3, zi v), (4, zi ((i : Int) + 1))], [], m) κ) :
    T (D + 4) 91 (84, lo, [zi v], m) κ := by
  exact zb91_84r hT hlo
    k1
end ZBlocks
