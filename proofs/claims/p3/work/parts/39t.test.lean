section ZTest
variable {T : Nat → Nat → zG → (Option zA → zM → Prop) → Prop}
theorem zb_w0r (hT : zRules T) {D : Nat} {κ : Option zA → zM → Prop} {m : zM} {c : Int} 
    (o1 : T (D + 1) 29 (2, [(0, zr 17), (1, zi c), (2, zi 0)], [], m) κ) :
    T (D + 1) 29 (0, [(0, zr 17), (1, zi c)], [], m) κ :=
  hT.1 [(2, [0, 1, 2])] 250 _ _ _ _ (o1)
theorem zb_w0 (hT : zRules T) {D : Nat} {κ : Option zA → zM → Prop} {m : zM} {c : Int}  (hB : zB m) (h_c : (-1) ≤ c ∧ c ≤ 100) 
    (k1 : T (D + 1) 29 (2, [(0, zr 17), (1, zi c), (2, zi 0)], [], m) κ) :
    T (D + 1) 29 (0, [(0, zr 17), (1, zi c)], [], m) κ := by
  exact zb_w0r hT
    k1
theorem zb_w2r (hT : zRules T) {D : Nat} {κ : Option zA → zM → Prop} {m : zM} {c : Int} {p : Nat} {lo : zL} (hlo : z_keep [0, 1, 2] lo = [(0, zr 17), (1, zi c), (2, zi (p : Int))]) 
    (o1 : ¬ wr (p : Int) < wr (m 17 0) → κ (some (zi (-1))) m)
    (o2 : wr (p : Int) < wr (m 17 0) → (0 ≤ wr (p : Int) ∧ wr (p : Int) < 6))
    (o3 : wr (p : Int) < wr (m 17 0) → ¬ wr (m 20 ((wr (p : Int)).toNat)) = wr c → T (D + 1) 29 (2, [(0, zr 17), (1, zi c), (2, zi ((p : Int) + 1))], [], m) κ)
    (o4 : wr (p : Int) < wr (m 17 0) → wr (m 20 ((wr (p : Int)).toNat)) = wr c → κ (some (zi (p : Int))) m) :
    T (D + 1) 29 (2, lo, [], m) κ :=
  zkeep hT hlo (hT.1 [(2, [0, 1, 2])] 250 _ _ _ _ (And.intro (fun a1 => (o1 a1)) (fun a2 => (And.intro (o2 (Classical.byContradiction a2)) (And.intro (fun a3 => (o3 (Classical.byContradiction a2) a3)) (fun a4 => (o4 (Classical.byContradiction a2) (Classical.byContradiction a4))))))))
theorem zb_w2 (hT : zRules T) {D : Nat} {κ : Option zA → zM → Prop} {m : zM} {c : Int} {p : Nat} {lo : zL} (hlo : z_keep [0, 1, 2] lo = [(0, zr 17), (1, zi c), (2, zi (p : Int))])  (hB : zB m) (h_c : (-1) ≤ c ∧ c ≤ 100) (h_p : p ≤ 6) 
    (k1 : ¬ (p : Int) < (m 17 0) → κ (some (zi (-1))) m)
    (k2 : (p : Int) < (m 17 0) → ¬ (m 20 p) = c → T (D + 1) 29 (2, [(0, zr 17), (1, zi c), (2, zi ((p : Int) + 1))], [], m) κ)
    (k3 : (p : Int) < (m 17 0) → (m 20 p) = c → κ (some (zi (p : Int))) m) :
    T (D + 1) 29 (2, lo, [], m) κ := by
  have hb2 : 0 ≤ (m 17 0) ∧ (m 17 0) ≤ 6 := hB 17 0
  have hb3 : (-1) ≤ (m 20 p) ∧ (m 20 p) ≤ 7 := hB 20 p
  have he0 : wr (p : Int) = (p : Int) := wr_id (by omega) (by omega)
  have he1 : wr (m 17 0) = (m 17 0) := wr_id (by omega) (by omega)
  have he2 : (p : Int).toNat = p := by omega
  have he3 : wr (m 20 p) = (m 20 p) := wr_id (by omega) (by omega)
  have he4 : wr c = c := wr_id (by omega) (by omega)
  have key := @zb_w2r T hT D κ m c p lo hlo
  simp only [he0, he1, he2, he3, he4, Int.toNat_natCast] at key
  exact key
    k1
    (fun x0 => by refine ⟨?_, ?_⟩ <;> omega)
    k2
    k3
theorem zb_lr (hT : zRules T) {D : Nat} {κ : Option zA → zM → Prop} {m : zM} {pl : Int} {wk : Int} 
    (o1 : wr pl < 0 → κ (some (zi (-1))) m)
    (o2 : ¬ wr pl < 0 → ¬ wr pl < wr (m 4 4) → κ (some (zi (-1))) m)
    (o3 : ¬ wr pl < 0 → wr pl < wr (m 4 4) → wr wk < 0 → κ (some (zi (-1))) m)
    (o4 : ¬ wr pl < 0 → wr pl < wr (m 4 4) → ¬ wr wk < 0 → (0 ≤ wr pl ∧ wr pl < 4))
    (o5 : ¬ wr pl < 0 → wr pl < wr (m 4 4) → ¬ wr wk < 0 → ¬ wr (m 6 ((wr pl).toNat)) < 1 → (0 ≤ wr pl ∧ wr pl < 4))
    (o6 : ¬ wr pl < 0 → wr pl < wr (m 4 4) → ¬ wr wk < 0 → ¬ wr (m 6 ((wr pl).toNat)) < 1 → ¬ wr (m 6 ((wr pl).toNat)) = 0)
    (o7 : ¬ wr pl < 0 → wr pl < wr (m 4 4) → ¬ wr wk < 0 → ¬ wr (m 6 ((wr pl).toNat)) < 1 → (0 ≤ wr ((pl * 26) + (Int.tmod (wr wk) (wr (m 6 ((wr pl).toNat))))) ∧ wr ((pl * 26) + (Int.tmod (wr wk) (wr (m 6 ((wr pl).toNat))))) < 104))
    (o8 : ¬ wr pl < 0 → wr pl < wr (m 4 4) → ¬ wr wk < 0 → ¬ wr (m 6 ((wr pl).toNat)) < 1 → κ (some (zi (m 5 ((wr ((pl * 26) + (Int.tmod (wr wk) (wr (m 6 ((wr pl).toNat)))))).toNat)))) m)
    (o9 : ¬ wr pl < 0 → wr pl < wr (m 4 4) → ¬ wr wk < 0 → wr (m 6 ((wr pl).toNat)) < 1 → κ (some (zi (-1))) m) :
    T (D + 1) 1 (0, [(0, zr 4), (1, zi pl), (2, zi wk)], [], m) κ :=
  hT.1 [] 250 _ _ _ _ (And.intro (fun a1 => (o1 a1)) (fun a2 => (And.intro (fun a3 => (o2 a2 a3)) (fun a4 => (And.intro (fun a5 => (o3 a2 (Classical.byContradiction a4) a5)) (fun a6 => (And.intro (o4 a2 (Classical.byContradiction a4) a6) (And.intro (fun a7 => (And.intro (o5 a2 (Classical.byContradiction a4) a6 a7) (And.intro (o6 a2 (Classical.byContradiction a4) a6 a7) (And.intro (o7 a2 (Classical.byContradiction a4) a6 a7) (o8 a2 (Classical.byContradiction a4) a6 a7))))) (fun a8 => (o9 a2 (Classical.byContradiction a4) a6 (Classical.byContradiction a8)))))))))))
theorem zb_l (hT : zRules T) {D : Nat} {κ : Option zA → zM → Prop} {m : zM} {pl : Int} {wk : Int}  (hB : zB m) (h_pl : (-5) ≤ pl ∧ pl ≤ 10) 
    (k1 : pl < 0 → κ (some (zi (-1))) m)
    (k2 : ¬ pl < 0 → ¬ pl < (m 4 4) → κ (some (zi (-1))) m)
    (k3 : ¬ pl < 0 → pl < (m 4 4) → wr wk < 0 → κ (some (zi (-1))) m)
    (k4 : ¬ pl < 0 → pl < (m 4 4) → ¬ wr wk < 0 → ¬ (m 6 (pl.toNat)) < 1 → (0 ≤ wr ((pl * 26) + (Int.tmod (wr wk) (m 6 (pl.toNat)))) ∧ wr ((pl * 26) + (Int.tmod (wr wk) (m 6 (pl.toNat)))) < 104))
    (k5 : ¬ pl < 0 → pl < (m 4 4) → ¬ wr wk < 0 → ¬ (m 6 (pl.toNat)) < 1 → κ (some (zi (m 5 ((wr ((pl * 26) + (Int.tmod (wr wk) (m 6 (pl.toNat))))).toNat)))) m)
    (k6 : ¬ pl < 0 → pl < (m 4 4) → ¬ wr wk < 0 → (m 6 (pl.toNat)) < 1 → κ (some (zi (-1))) m) :
    T (D + 1) 1 (0, [(0, zr 4), (1, zi pl), (2, zi wk)], [], m) κ := by
  have hb1 : 0 ≤ (m 4 4) ∧ (m 4 4) ≤ 4 := hB 4 4
  have hb2 : (-2147483648) ≤ wr wk ∧ wr wk ≤ 2147483647 := wrB wk
  have hb3 : 0 ≤ (m 6 (pl.toNat)) ∧ (m 6 (pl.toNat)) ≤ 26 := hB 6 (pl.toNat)
  have hb4 : (-2147483648) ≤ wr ((pl * 26) + (Int.tmod (wr wk) (m 6 (pl.toNat)))) ∧ wr ((pl * 26) + (Int.tmod (wr wk) (m 6 (pl.toNat)))) ≤ 2147483647 := wrB ((pl * 26) + (Int.tmod (wr wk) (m 6 (pl.toNat))))
  have hb5 : 0 ≤ (m 5 ((wr ((pl * 26) + (Int.tmod (wr wk) (m 6 (pl.toNat))))).toNat)) ∧ (m 5 ((wr ((pl * 26) + (Int.tmod (wr wk) (m 6 (pl.toNat))))).toNat)) ≤ 9 := hB 5 ((wr ((pl * 26) + (Int.tmod (wr wk) (m 6 (pl.toNat))))).toNat)
  have he0 : wr pl = pl := wr_id (by omega) (by omega)
  have he1 : wr (m 4 4) = (m 4 4) := wr_id (by omega) (by omega)
  have he2 : wr (m 6 (pl.toNat)) = (m 6 (pl.toNat)) := wr_id (by omega) (by omega)
  have key := @zb_lr T hT D κ m pl wk
  simp only [he0, he1, he2, Int.toNat_natCast] at key
  exact key
    k1
    k2
    k3
    (fun x0 x1 x2 => by refine ⟨?_, ?_⟩ <;> omega)
    (fun x0 x1 x2 x3 => by refine ⟨?_, ?_⟩ <;> omega)
    (fun x0 x1 x2 x3 => by omega)
    k4
    k5
    k6
theorem zb_tr (hT : zRules T) {D : Nat} {κ : Option zA → zM → Prop} {m : zM} {c : Nat} {v : Int} 
    (o1 : (0 ≤ wr (c : Int) ∧ wr (c : Int) < 8))
    (o2 : (0 ≤ wr (c : Int) ∧ wr (c : Int) < 8))
    (o3 : (0 ≤ wr (c : Int) ∧ wr (c : Int) < 8))
    (o4 : ¬ wr (m 21 ((wr (c : Int)).toNat)) = wr v → ¬ wr ((m 21 ((wr (c : Int)).toNat)) + (m 22 ((wr (c : Int)).toNat))) < wr v → wr (v + (m 24 0)) < wr ((m 21 ((wr (c : Int)).toNat)) + (m 22 ((wr (c : Int)).toNat))) → ¬ wr (m 25 2) < 20 → (0 ≤ wr (c : Int) ∧ wr (c : Int) < 8))
    (o5 : ¬ wr (m 21 ((wr (c : Int)).toNat)) = wr v → ¬ wr ((m 21 ((wr (c : Int)).toNat)) + (m 22 ((wr (c : Int)).toNat))) < wr v → wr (v + (m 24 0)) < wr ((m 21 ((wr (c : Int)).toNat)) + (m 22 ((wr (c : Int)).toNat))) → ¬ wr (m 25 2) < 20 → (0 ≤ wr (c : Int) ∧ wr (c : Int) < 8))
    (o6 : ¬ wr (m 21 ((wr (c : Int)).toNat)) = wr v → ¬ wr ((m 21 ((wr (c : Int)).toNat)) + (m 22 ((wr (c : Int)).toNat))) < wr v → wr (v + (m 24 0)) < wr ((m 21 ((wr (c : Int)).toNat)) + (m 22 ((wr (c : Int)).toNat))) → ¬ wr (m 25 2) < 20 → κ (none) (zu (zu (zu (zu m 17 14 ((m 17 14) + ((((m 21 ((wr (c : Int)).toNat)) + (m 22 ((wr (c : Int)).toNat))) - v) - (m 24 0)))) 17 13 ((m 17 13) + 2)) 21 ((wr (c : Int)).toNat) v) 22 ((wr (c : Int)).toNat) ((((m 21 ((wr (c : Int)).toNat)) + (m 22 ((wr (c : Int)).toNat))) - ((((m 21 ((wr (c : Int)).toNat)) + (m 22 ((wr (c : Int)).toNat))) - v) - (m 24 0))) - v)))
    (o7 : ¬ wr (m 21 ((wr (c : Int)).toNat)) = wr v → ¬ wr ((m 21 ((wr (c : Int)).toNat)) + (m 22 ((wr (c : Int)).toNat))) < wr v → wr (v + (m 24 0)) < wr ((m 21 ((wr (c : Int)).toNat)) + (m 22 ((wr (c : Int)).toNat))) → wr (m 25 2) < 20 → (0 ≤ wr (m 25 2) ∧ wr (m 25 2) < 20))
    (o8 : ¬ wr (m 21 ((wr (c : Int)).toNat)) = wr v → ¬ wr ((m 21 ((wr (c : Int)).toNat)) + (m 22 ((wr (c : Int)).toNat))) < wr v → wr (v + (m 24 0)) < wr ((m 21 ((wr (c : Int)).toNat)) + (m 22 ((wr (c : Int)).toNat))) → wr (m 25 2) < 20 → (0 ≤ wr (c : Int) ∧ wr (c : Int) < 8))
    (o9 : ¬ wr (m 21 ((wr (c : Int)).toNat)) = wr v → ¬ wr ((m 21 ((wr (c : Int)).toNat)) + (m 22 ((wr (c : Int)).toNat))) < wr v → wr (v + (m 24 0)) < wr ((m 21 ((wr (c : Int)).toNat)) + (m 22 ((wr (c : Int)).toNat))) → wr (m 25 2) < 20 → (0 ≤ wr (c : Int) ∧ wr (c : Int) < 8))
    (o10 : ¬ wr (m 21 ((wr (c : Int)).toNat)) = wr v → ¬ wr ((m 21 ((wr (c : Int)).toNat)) + (m 22 ((wr (c : Int)).toNat))) < wr v → wr (v + (m 24 0)) < wr ((m 21 ((wr (c : Int)).toNat)) + (m 22 ((wr (c : Int)).toNat))) → wr (m 25 2) < 20 → κ (none) (zu (zu (zu (zu (zu (zu m 17 14 ((m 17 14) + ((((m 21 ((wr (c : Int)).toNat)) + (m 22 ((wr (c : Int)).toNat))) - v) - (m 24 0)))) 26 ((wr (m 25 2)).toNat) ((((m 21 ((wr (c : Int)).toNat)) + (m 22 ((wr (c : Int)).toNat))) - v) - (m 24 0))) 25 2 ((m 25 2) + 1)) 17 13 ((m 17 13) + 2)) 21 ((wr (c : Int)).toNat) v) 22 ((wr (c : Int)).toNat) ((((m 21 ((wr (c : Int)).toNat)) + (m 22 ((wr (c : Int)).toNat))) - ((((m 21 ((wr (c : Int)).toNat)) + (m 22 ((wr (c : Int)).toNat))) - v) - (m 24 0))) - v)))
    (o11 : ¬ wr (m 21 ((wr (c : Int)).toNat)) = wr v → ¬ wr ((m 21 ((wr (c : Int)).toNat)) + (m 22 ((wr (c : Int)).toNat))) < wr v → ¬ wr (v + (m 24 0)) < wr ((m 21 ((wr (c : Int)).toNat)) + (m 22 ((wr (c : Int)).toNat))) → (0 ≤ wr (c : Int) ∧ wr (c : Int) < 8))
    (o12 : ¬ wr (m 21 ((wr (c : Int)).toNat)) = wr v → ¬ wr ((m 21 ((wr (c : Int)).toNat)) + (m 22 ((wr (c : Int)).toNat))) < wr v → ¬ wr (v + (m 24 0)) < wr ((m 21 ((wr (c : Int)).toNat)) + (m 22 ((wr (c : Int)).toNat))) → (0 ≤ wr (c : Int) ∧ wr (c : Int) < 8))
    (o13 : ¬ wr (m 21 ((wr (c : Int)).toNat)) = wr v → ¬ wr ((m 21 ((wr (c : Int)).toNat)) + (m 22 ((wr (c : Int)).toNat))) < wr v → ¬ wr (v + (m 24 0)) < wr ((m 21 ((wr (c : Int)).toNat)) + (m 22 ((wr (c : Int)).toNat))) → κ (none) (zu (zu (zu m 17 13 ((m 17 13) + 1)) 21 ((wr (c : Int)).toNat) v) 22 ((wr (c : Int)).toNat) (((m 21 ((wr (c : Int)).toNat)) + (m 22 ((wr (c : Int)).toNat))) - v)))
    (o14 : ¬ wr (m 21 ((wr (c : Int)).toNat)) = wr v → wr ((m 21 ((wr (c : Int)).toNat)) + (m 22 ((wr (c : Int)).toNat))) < wr v → (0 ≤ wr (c : Int) ∧ wr (c : Int) < 8))
    (o15 : ¬ wr (m 21 ((wr (c : Int)).toNat)) = wr v → wr ((m 21 ((wr (c : Int)).toNat)) + (m 22 ((wr (c : Int)).toNat))) < wr v → (0 ≤ wr (c : Int) ∧ wr (c : Int) < 8))
    (o16 : ¬ wr (m 21 ((wr (c : Int)).toNat)) = wr v → wr ((m 21 ((wr (c : Int)).toNat)) + (m 22 ((wr (c : Int)).toNat))) < wr v → (0 ≤ wr (c : Int) ∧ wr (c : Int) < 8))
    (o17 : ¬ wr (m 21 ((wr (c : Int)).toNat)) = wr v → wr ((m 21 ((wr (c : Int)).toNat)) + (m 22 ((wr (c : Int)).toNat))) < wr v → (0 ≤ wr (c : Int) ∧ wr (c : Int) < 8))
    (o18 : ¬ wr (m 21 ((wr (c : Int)).toNat)) = wr v → wr ((m 21 ((wr (c : Int)).toNat)) + (m 22 ((wr (c : Int)).toNat))) < wr v → κ (none) (zu (zu (zu (zu (zu m 17 12 ((m 17 12) + (v - ((m 21 ((wr (c : Int)).toNat)) + (m 22 ((wr (c : Int)).toNat)))))) 23 ((wr (c : Int)).toNat) ((m 23 ((wr (c : Int)).toNat)) + 1)) 17 13 ((m 17 13) + 3)) 21 ((wr (c : Int)).toNat) v) 22 ((wr (c : Int)).toNat) (v - v)))
    (o19 : wr (m 21 ((wr (c : Int)).toNat)) = wr v → κ (none) m) :
    T (D + 2) 38 (0, [(0, zr 17), (1, zi (c : Int)), (2, zi v)], [], m) κ :=
  hT.1 [] 250 _ _ _ _ (hT.1 [] 250 _ _ _ _ (And.intro (o1) (And.intro (o2) (hT.1 [] 250 _ _ _ _ (And.intro (o3) (hT.1 [] 250 _ _ _ _ (And.intro (fun a1 => (And.intro (fun a3 => (hT.1 [] 250 _ _ _ _ (And.intro (z_ixL rfl) (hT.1 [] 250 _ _ _ _ (And.intro (fun a5 => (hT.1 [] 250 _ _ _ _ (And.intro (fun _ => (And.intro (fun _ => (And.intro (fun a9 => (z_litF a9 rfl).elim) (fun _ => (hT.1 [] 250 _ _ _ _ (And.intro (z_ixL rfl) (hT.1 [] 250 _ _ _ _ (And.intro trivial (hT.1 [] 250 _ _ _ _ (And.intro (fun a10 => (hT.1 [] 250 _ _ _ _ (And.intro trivial (And.intro (And.intro (o4 a1 a3 a5 a10) trivial) (And.intro (And.intro (o5 a1 a3 a5 a10) trivial) (o6 a1 a3 a5 a10)))))) (fun a11 => (And.intro (And.intro (o7 a1 a3 a5 (Classical.byContradiction a11)) trivial) (And.intro trivial (hT.1 [] 250 _ _ _ _ (And.intro trivial (And.intro (And.intro (o8 a1 a3 a5 (Classical.byContradiction a11)) trivial) (And.intro (And.intro (o9 a1 a3 a5 (Classical.byContradiction a11)) trivial) (o10 a1 a3 a5 (Classical.byContradiction a11)))))))))))))))))) (fun a8 => (a8 (z_litT rfl)).elim))) (fun a7 => (a7 (z_litT rfl)).elim)))) (fun a6 => (hT.1 [] 250 _ _ _ _ (And.intro (fun _ => (And.intro (fun _ => (And.intro (fun _ => (And.intro trivial (And.intro (And.intro (o11 a1 a3 a6) trivial) (And.intro (And.intro (o12 a1 a3 a6) trivial) (o13 a1 a3 a6))))) (fun a14 => (a14 (z_litT rfl)).elim))) (fun a13 => (a13 (z_litT rfl)).elim))) (fun a12 => (a12 (z_litT rfl)).elim))))))))) (fun a4 => (hT.1 [] 250 _ _ _ _ (And.intro (fun _ => (And.intro (fun a16 => (z_litF a16 rfl).elim) (fun _ => (And.intro trivial (And.intro (o14 a1 (Classical.byContradiction a4)) (And.intro (And.intro (o15 a1 (Classical.byContradiction a4)) trivial) (And.intro (fun _ => (And.intro trivial (And.intro (And.intro (o16 a1 (Classical.byContradiction a4)) trivial) (And.intro (And.intro (o17 a1 (Classical.byContradiction a4)) trivial) (o18 a1 (Classical.byContradiction a4)))))) (fun a17 => (a17 (z_litT rfl)).elim)))))))) (fun a15 => (a15 (z_litT rfl)).elim)))))) (fun a2 => (hT.1 [] 250 _ _ _ _ (And.intro (fun a18 => (z_litF a18 rfl).elim) (fun _ => (o19 (Classical.byContradiction a2)))))))))))))
theorem zb_t (hT : zRules T) {D : Nat} {κ : Option zA → zM → Prop} {m : zM} {c : Nat} {v : Int}  (hB : zB m) (h_c : c ≤ 7) (h_v : 0 ≤ v ∧ v ≤ 99) 
    (k1 : ¬ (m 21 c) = v → ¬ ((m 21 c) + (m 22 c)) < v → (v + (m 24 0)) < ((m 21 c) + (m 22 c)) → ¬ (m 25 2) < 20 → zB (zu (zu (zu (zu m 17 14 ((m 17 14) + ((((m 21 c) + (m 22 c)) - v) - (m 24 0)))) 17 13 ((m 17 13) + 2)) 21 c v) 22 c ((((m 21 c) + (m 22 c)) - ((((m 21 c) + (m 22 c)) - v) - (m 24 0))) - v)) → κ (none) (zu (zu (zu (zu m 17 14 ((m 17 14) + ((((m 21 c) + (m 22 c)) - v) - (m 24 0)))) 17 13 ((m 17 13) + 2)) 21 c v) 22 c ((((m 21 c) + (m 22 c)) - ((((m 21 c) + (m 22 c)) - v) - (m 24 0))) - v)))
    (k2 : ¬ (m 21 c) = v → ¬ ((m 21 c) + (m 22 c)) < v → (v + (m 24 0)) < ((m 21 c) + (m 22 c)) → (m 25 2) < 20 → zB (zu (zu (zu (zu (zu (zu m 17 14 ((m 17 14) + ((((m 21 c) + (m 22 c)) - v) - (m 24 0)))) 26 ((m 25 2).toNat) ((((m 21 c) + (m 22 c)) - v) - (m 24 0))) 25 2 ((m 25 2) + 1)) 17 13 ((m 17 13) + 2)) 21 c v) 22 c ((((m 21 c) + (m 22 c)) - ((((m 21 c) + (m 22 c)) - v) - (m 24 0))) - v)) → κ (none) (zu (zu (zu (zu (zu (zu m 17 14 ((m 17 14) + ((((m 21 c) + (m 22 c)) - v) - (m 24 0)))) 26 ((m 25 2).toNat) ((((m 21 c) + (m 22 c)) - v) - (m 24 0))) 25 2 ((m 25 2) + 1)) 17 13 ((m 17 13) + 2)) 21 c v) 22 c ((((m 21 c) + (m 22 c)) - ((((m 21 c) + (m 22 c)) - v) - (m 24 0))) - v)))
    (k3 : ¬ (m 21 c) = v → ¬ ((m 21 c) + (m 22 c)) < v → ¬ (v + (m 24 0)) < ((m 21 c) + (m 22 c)) → zB (zu (zu (zu m 17 13 ((m 17 13) + 1)) 21 c v) 22 c (((m 21 c) + (m 22 c)) - v)) → κ (none) (zu (zu (zu m 17 13 ((m 17 13) + 1)) 21 c v) 22 c (((m 21 c) + (m 22 c)) - v)))
    (k4 : ¬ (m 21 c) = v → ((m 21 c) + (m 22 c)) < v → zB (zu (zu (zu (zu (zu m 17 12 ((m 17 12) + (v - ((m 21 c) + (m 22 c))))) 23 c ((m 23 c) + 1)) 17 13 ((m 17 13) + 3)) 21 c v) 22 c (v - v)) → κ (none) (zu (zu (zu (zu (zu m 17 12 ((m 17 12) + (v - ((m 21 c) + (m 22 c))))) 23 c ((m 23 c) + 1)) 17 13 ((m 17 13) + 3)) 21 c v) 22 c (v - v)))
    (k5 : (m 21 c) = v → κ (none) m) :
    T (D + 2) 38 (0, [(0, zr 17), (1, zi (c : Int)), (2, zi v)], [], m) κ := by
  have hb2 : (-1) ≤ (m 21 c) ∧ (m 21 c) ≤ 99 := hB 21 c
  have hb3 : (-1) ≤ (m 22 c) ∧ (m 22 c) ≤ 9 := hB 22 c
  have hb4 : 0 ≤ (m 24 0) ∧ (m 24 0) ≤ 9 := hB 24 0
  have hb5 : 0 ≤ (m 25 2) ∧ (m 25 2) ≤ 20 := hB 25 2
  have he0 : wr (c : Int) = (c : Int) := wr_id (by omega) (by omega)
  have he1 : (c : Int).toNat = c := by omega
  have he2 : wr (m 21 c) = (m 21 c) := wr_id (by omega) (by omega)
  have he3 : wr v = v := wr_id (by omega) (by omega)
  have he4 : wr ((m 21 c) + (m 22 c)) = ((m 21 c) + (m 22 c)) := wr_id (by omega) (by omega)
  have he5 : wr (v + (m 24 0)) = (v + (m 24 0)) := wr_id (by omega) (by omega)
  have he6 : wr (m 25 2) = (m 25 2) := wr_id (by omega) (by omega)
  have key := @zb_tr T hT D κ m c v
  simp only [he0, he1, he2, he3, he4, he5, he6, Int.toNat_natCast] at key
  exact key
    (by refine ⟨?_, ?_⟩ <;> omega)
    (by refine ⟨?_, ?_⟩ <;> omega)
    (by refine ⟨?_, ?_⟩ <;> omega)
    (fun x0 x1 x2 x3 => by refine ⟨?_, ?_⟩ <;> omega)
    (fun x0 x1 x2 x3 => by refine ⟨?_, ?_⟩ <;> omega)
    (fun x0 x1 x2 x3 => k1 x0 x1 x2 x3 (zB_u (zB_u (zB_u (zB_u hB trivial) trivial) (show (-1) ≤ v ∧ v ≤ 99 from ⟨by omega, by omega⟩)) (show (-1) ≤ ((((m 21 c) + (m 22 c)) - ((((m 21 c) + (m 22 c)) - v) - (m 24 0))) - v) ∧ ((((m 21 c) + (m 22 c)) - ((((m 21 c) + (m 22 c)) - v) - (m 24 0))) - v) ≤ 9 from ⟨by omega, by omega⟩)))
    (fun x0 x1 x2 x3 => by refine ⟨?_, ?_⟩ <;> omega)
    (fun x0 x1 x2 x3 => by refine ⟨?_, ?_⟩ <;> omega)
    (fun x0 x1 x2 x3 => by refine ⟨?_, ?_⟩ <;> omega)
    (fun x0 x1 x2 x3 => k2 x0 x1 x2 x3 (zB_u (zB_u (zB_u (zB_u (zB_u (zB_u hB trivial) (show 0 ≤ ((((m 21 c) + (m 22 c)) - v) - (m 24 0)) ∧ ((((m 21 c) + (m 22 c)) - v) - (m 24 0)) ≤ 108 from ⟨by omega, by omega⟩)) (show 0 ≤ ((m 25 2) + 1) ∧ ((m 25 2) + 1) ≤ 20 from ⟨by omega, by omega⟩)) trivial) (show (-1) ≤ v ∧ v ≤ 99 from ⟨by omega, by omega⟩)) (show (-1) ≤ ((((m 21 c) + (m 22 c)) - ((((m 21 c) + (m 22 c)) - v) - (m 24 0))) - v) ∧ ((((m 21 c) + (m 22 c)) - ((((m 21 c) + (m 22 c)) - v) - (m 24 0))) - v) ≤ 9 from ⟨by omega, by omega⟩)))
    (fun x0 x1 x2 => by refine ⟨?_, ?_⟩ <;> omega)
    (fun x0 x1 x2 => by refine ⟨?_, ?_⟩ <;> omega)
    (fun x0 x1 x2 => k3 x0 x1 x2 (zB_u (zB_u (zB_u hB trivial) (show (-1) ≤ v ∧ v ≤ 99 from ⟨by omega, by omega⟩)) (show (-1) ≤ (((m 21 c) + (m 22 c)) - v) ∧ (((m 21 c) + (m 22 c)) - v) ≤ 9 from ⟨by omega, by omega⟩)))
    (fun x0 x1 => by refine ⟨?_, ?_⟩ <;> omega)
    (fun x0 x1 => by refine ⟨?_, ?_⟩ <;> omega)
    (fun x0 x1 => by refine ⟨?_, ?_⟩ <;> omega)
    (fun x0 x1 => by refine ⟨?_, ?_⟩ <;> omega)
    (fun x0 x1 => k4 x0 x1 (zB_u (zB_u (zB_u (zB_u (zB_u hB trivial) trivial) trivial) (show (-1) ≤ v ∧ v ≤ 99 from ⟨by omega, by omega⟩)) (show (-1) ≤ (v - v) ∧ (v - v) ≤ 9 from ⟨by omega, by omega⟩)))
    k5
end ZTest
