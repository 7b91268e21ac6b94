-- 83.b13.lean.txt
section
section ZBlocks
variable {T : Nat → Nat → zG → (Option zA → zM → Prop) → Prop}
theorem zb293_0r (hT : zRules T) {D : Nat} {κ : Option zA → zM → Prop} {m : zM} {i : Int} 
    (o1 : κ (some (zi (wr (z_and (((z_and (((z_and (i - (z_and (z_ush i 1) 1431655765)) 858993459) + (z_and (z_ush (i - (z_and (z_ush i 1) 1431655765)) 2) 858993459)) + (z_ush ((z_and (i - (z_and (z_ush i 1) 1431655765)) 858993459) + (z_and (z_ush (i - (z_and (z_ush i 1) 1431655765)) 2) 858993459)) 4)) 252645135) + (z_ush (z_and (((z_and (i - (z_and (z_ush i 1) 1431655765)) 858993459) + (z_and (z_ush (i - (z_and (z_ush i 1) 1431655765)) 2) 858993459)) + (z_ush ((z_and (i - (z_and (z_ush i 1) 1431655765)) 858993459) + (z_and (z_ush (i - (z_and (z_ush i 1) 1431655765)) 2) 858993459)) 4)) 252645135) 8)) + (z_ush ((z_and (((z_and (i - (z_and (z_ush i 1) 1431655765)) 858993459) + (z_and (z_ush (i - (z_and (z_ush i 1) 1431655765)) 2) 858993459)) + (z_ush ((z_and (i - (z_and (z_ush i 1) 1431655765)) 858993459) + (z_and (z_ush (i - (z_and (z_ush i 1) 1431655765)) 2) 858993459)) 4)) 252645135) + (z_ush (z_and (((z_and (i - (z_and (z_ush i 1) 1431655765)) 858993459) + (z_and (z_ush (i - (z_and (z_ush i 1) 1431655765)) 2) 858993459)) + (z_ush ((z_and (i - (z_and (z_ush i 1) 1431655765)) 858993459) + (z_and (z_ush (i - (z_and (z_ush i 1) 1431655765)) 2) 858993459)) 4)) 252645135) 8)) 16)) 63)))) m) :
    T (D + 1) 293 (0, [(0, zi i)], [], m) κ :=
  hT.1 [] 6 (D + 1) 293 _ κ (hT.1 [] 6 (D + 1) 293 (8, [(0, zi i)], [zi (z_and (z_ush i 1) 1431655765), zi i], m) _ (hT.1 [] 6 (D + 1) 293 (16, [(0, zi (i - (z_and (z_ush i 1) 1431655765)))], [zi (i - (z_and (z_ush i 1) 1431655765)), zi (z_and (i - (z_and (z_ush i 1) 1431655765)) 858993459)], m) _ (hT.1 [] 6 (D + 1) 293 (24, [(0, zi ((z_and (i - (z_and (z_ush i 1) 1431655765)) 858993459) + (z_and (z_ush (i - (z_and (z_ush i 1) 1431655765)) 2) 858993459)))], [], m) _ (hT.1 [] 6 (D + 1) 293 (32, [(0, zi ((z_and (i - (z_and (z_ush i 1) 1431655765)) 858993459) + (z_and (z_ush (i - (z_and (z_ush i 1) 1431655765)) 2) 858993459)))], [zi 252645135, zi (((z_and (i - (z_and (z_ush i 1) 1431655765)) 858993459) + (z_and (z_ush (i - (z_and (z_ush i 1) 1431655765)) 2) 858993459)) + (z_ush ((z_and (i - (z_and (z_ush i 1) 1431655765)) 858993459) + (z_and (z_ush (i - (z_and (z_ush i 1) 1431655765)) 2) 858993459)) 4))], m) _ (hT.1 [] 6 (D + 1) 293 (39, [(0, zi (z_and (((z_and (i - (z_and (z_ush i 1) 1431655765)) 858993459) + (z_and (z_ush (i - (z_and (z_ush i 1) 1431655765)) 2) 858993459)) + (z_ush ((z_and (i - (z_and (z_ush i 1) 1431655765)) 858993459) + (z_and (z_ush (i - (z_and (z_ush i 1) 1431655765)) 2) 858993459)) 4)) 252645135))], [zi (z_ush (z_and (((z_and (i - (z_and (z_ush i 1) 1431655765)) 858993459) + (z_and (z_ush (i - (z_and (z_ush i 1) 1431655765)) 2) 858993459)) + (z_ush ((z_and (i - (z_and (z_ush i 1) 1431655765)) 858993459) + (z_and (z_ush (i - (z_and (z_ush i 1) 1431655765)) 2) 858993459)) 4)) 252645135) 8), zi (z_and (((z_and (i - (z_and (z_ush i 1) 1431655765)) 858993459) + (z_and (z_ush (i - (z_and (z_ush i 1) 1431655765)) 2) 858993459)) + (z_ush ((z_and (i - (z_and (z_ush i 1) 1431655765)) 858993459) + (z_and (z_ush (i - (z_and (z_ush i 1) 1431655765)) 2) 858993459)) 4)) 252645135)], m) _ (hT.1 [] 6 (D + 1) 293 (46, [(0, zi ((z_and (((z_and (i - (z_and (z_ush i 1) 1431655765)) 858993459) + (z_and (z_ush (i - (z_and (z_ush i 1) 1431655765)) 2) 858993459)) + (z_ush ((z_and (i - (z_and (z_ush i 1) 1431655765)) 858993459) + (z_and (z_ush (i - (z_and (z_ush i 1) 1431655765)) 2) 858993459)) 4)) 252645135) + (z_ush (z_and (((z_and (i - (z_and (z_ush i 1) 1431655765)) 858993459) + (z_and (z_ush (i - (z_and (z_ush i 1) 1431655765)) 2) 858993459)) + (z_ush ((z_and (i - (z_and (z_ush i 1) 1431655765)) 858993459) + (z_and (z_ush (i - (z_and (z_ush i 1) 1431655765)) 2) 858993459)) 4)) 252645135) 8)))], [zi (z_ush ((z_and (((z_and (i - (z_and (z_ush i 1) 1431655765)) 858993459) + (z_and (z_ush (i - (z_and (z_ush i 1) 1431655765)) 2) 858993459)) + (z_ush ((z_and (i - (z_and (z_ush i 1) 1431655765)) 858993459) + (z_and (z_ush (i - (z_and (z_ush i 1) 1431655765)) 2) 858993459)) 4)) 252645135) + (z_ush (z_and (((z_and (i - (z_and (z_ush i 1) 1431655765)) 858993459) + (z_and (z_ush (i - (z_and (z_ush i 1) 1431655765)) 2) 858993459)) + (z_ush ((z_and (i - (z_and (z_ush i 1) 1431655765)) 858993459) + (z_and (z_ush (i - (z_and (z_ush i 1) 1431655765)) 2) 858993459)) 4)) 252645135) 8)) 16), zi ((z_and (((z_and (i - (z_and (z_ush i 1) 1431655765)) 858993459) + (z_and (z_ush (i - (z_and (z_ush i 1) 1431655765)) 2) 858993459)) + (z_ush ((z_and (i - (z_and (z_ush i 1) 1431655765)) 858993459) + (z_and (z_ush (i - (z_and (z_ush i 1) 1431655765)) 2) 858993459)) 4)) 252645135) + (z_ush (z_and (((z_and (i - (z_and (z_ush i 1) 1431655765)) 858993459) + (z_and (z_ush (i - (z_and (z_ush i 1) 1431655765)) 2) 858993459)) + (z_ush ((z_and (i - (z_and (z_ush i 1) 1431655765)) 858993459) + (z_and (z_ush (i - (z_and (z_ush i 1) 1431655765)) 2) 858993459)) 4)) 252645135) 8))], m) _ (o1)))))))
theorem zb293_0 (hT : zRules T) {D : Nat} {κ : Option zA → zM → Prop} {m : zM} {i : Int}  (h_i : (-2147483648) ≤ i ∧ i ≤ 2147483647) 
    (k1 : κ (some (zi (z_and (((z_and (((z_and (i - (z_and (z_ush i 1) 1431655765)) 858993459) + (z_and (z_ush (i - (z_and (z_ush i 1) 1431655765)) 2) 858993459)) + (z_ush ((z_and (i - (z_and (z_ush i 1) 1431655765)) 858993459) + (z_and (z_ush (i - (z_and (z_ush i 1) 1431655765)) 2) 858993459)) 4)) 252645135) + (z_ush (z_and (((z_and (i - (z_and (z_ush i 1) 1431655765)) 858993459) + (z_and (z_ush (i - (z_and (z_ush i 1) 1431655765)) 2) 858993459)) + (z_ush ((z_and (i - (z_and (z_ush i 1) 1431655765)) 858993459) + (z_and (z_ush (i - (z_and (z_ush i 1) 1431655765)) 2) 858993459)) 4)) 252645135) 8)) + (z_ush ((z_and (((z_and (i - (z_and (z_ush i 1) 1431655765)) 858993459) + (z_and (z_ush (i - (z_and (z_ush i 1) 1431655765)) 2) 858993459)) + (z_ush ((z_and (i - (z_and (z_ush i 1) 1431655765)) 858993459) + (z_and (z_ush (i - (z_and (z_ush i 1) 1431655765)) 2) 858993459)) 4)) 252645135) + (z_ush (z_and (((z_and (i - (z_and (z_ush i 1) 1431655765)) 858993459) + (z_and (z_ush (i - (z_and (z_ush i 1) 1431655765)) 2) 858993459)) + (z_ush ((z_and (i - (z_and (z_ush i 1) 1431655765)) 858993459) + (z_and (z_ush (i - (z_and (z_ush i 1) 1431655765)) 2) 858993459)) 4)) 252645135) 8)) 16)) 63))) m) :
    T (D + 1) 293 (0, [(0, zi i)], [], m) κ := by
  have hb1 : (-2147483648) ≤ (z_ush i 1) ∧ (z_ush i 1) ≤ 2147483647 := z_ushB i 1
  have hb2 : 0 ≤ (z_and (z_ush i 1) 1431655765) ∧ (z_and (z_ush i 1) 1431655765) ≤ 1431655765 := z_andC (z_ush i 1) 1431655765 (by decide)
  have hb3 : 0 ≤ (z_and (i - (z_and (z_ush i 1) 1431655765)) 858993459) ∧ (z_and (i - (z_and (z_ush i 1) 1431655765)) 858993459) ≤ 858993459 := z_andC (i - (z_and (z_ush i 1) 1431655765)) 858993459 (by decide)
  have hb4 : (-2147483648) ≤ (z_ush (i - (z_and (z_ush i 1) 1431655765)) 2) ∧ (z_ush (i - (z_and (z_ush i 1) 1431655765)) 2) ≤ 2147483647 := z_ushB (i - (z_and (z_ush i 1) 1431655765)) 2
  have hb5 : 0 ≤ (z_and (z_ush (i - (z_and (z_ush i 1) 1431655765)) 2) 858993459) ∧ (z_and (z_ush (i - (z_and (z_ush i 1) 1431655765)) 2) 858993459) ≤ 858993459 := z_andC (z_ush (i - (z_and (z_ush i 1) 1431655765)) 2) 858993459 (by decide)
  have hb6 : (-2147483648) ≤ (z_ush ((z_and (i - (z_and (z_ush i 1) 1431655765)) 858993459) + (z_and (z_ush (i - (z_and (z_ush i 1) 1431655765)) 2) 858993459)) 4) ∧ (z_ush ((z_and (i - (z_and (z_ush i 1) 1431655765)) 858993459) + (z_and (z_ush (i - (z_and (z_ush i 1) 1431655765)) 2) 858993459)) 4) ≤ 2147483647 := z_ushB ((z_and (i - (z_and (z_ush i 1) 1431655765)) 858993459) + (z_and (z_ush (i - (z_and (z_ush i 1) 1431655765)) 2) 858993459)) 4
  have hb7 : 0 ≤ (z_and (((z_and (i - (z_and (z_ush i 1) 1431655765)) 858993459) + (z_and (z_ush (i - (z_and (z_ush i 1) 1431655765)) 2) 858993459)) + (z_ush ((z_and (i - (z_and (z_ush i 1) 1431655765)) 858993459) + (z_and (z_ush (i - (z_and (z_ush i 1) 1431655765)) 2) 858993459)) 4)) 252645135) ∧ (z_and (((z_and (i - (z_and (z_ush i 1) 1431655765)) 858993459) + (z_and (z_ush (i - (z_and (z_ush i 1) 1431655765)) 2) 858993459)) + (z_ush ((z_and (i - (z_and (z_ush i 1) 1431655765)) 858993459) + (z_and (z_ush (i - (z_and (z_ush i 1) 1431655765)) 2) 858993459)) 4)) 252645135) ≤ 252645135 := z_andC (((z_and (i - (z_and (z_ush i 1) 1431655765)) 858993459) + (z_and (z_ush (i - (z_and (z_ush i 1) 1431655765)) 2) 858993459)) + (z_ush ((z_and (i - (z_and (z_ush i 1) 1431655765)) 858993459) + (z_and (z_ush (i - (z_and (z_ush i 1) 1431655765)) 2) 858993459)) 4)) 252645135 (by decide)
  have hb8 : (-2147483648) ≤ (z_ush (z_and (((z_and (i - (z_and (z_ush i 1) 1431655765)) 858993459) + (z_and (z_ush (i - (z_and (z_ush i 1) 1431655765)) 2) 858993459)) + (z_ush ((z_and (i - (z_and (z_ush i 1) 1431655765)) 858993459) + (z_and (z_ush (i - (z_and (z_ush i 1) 1431655765)) 2) 858993459)) 4)) 252645135) 8) ∧ (z_ush (z_and (((z_and (i - (z_and (z_ush i 1) 1431655765)) 858993459) + (z_and (z_ush (i - (z_and (z_ush i 1) 1431655765)) 2) 858993459)) + (z_ush ((z_and (i - (z_and (z_ush i 1) 1431655765)) 858993459) + (z_and (z_ush (i - (z_and (z_ush i 1) 1431655765)) 2) 858993459)) 4)) 252645135) 8) ≤ 2147483647 := z_ushB (z_and (((z_and (i - (z_and (z_ush i 1) 1431655765)) 858993459) + (z_and (z_ush (i - (z_and (z_ush i 1) 1431655765)) 2) 858993459)) + (z_ush ((z_and (i - (z_and (z_ush i 1) 1431655765)) 858993459) + (z_and (z_ush (i - (z_and (z_ush i 1) 1431655765)) 2) 858993459)) 4)) 252645135) 8
  have hb9 : (-2147483648) ≤ (z_ush ((z_and (((z_and (i - (z_and (z_ush i 1) 1431655765)) 858993459) + (z_and (z_ush (i - (z_and (z_ush i 1) 1431655765)) 2) 858993459)) + (z_ush ((z_and (i - (z_and (z_ush i 1) 1431655765)) 858993459) + (z_and (z_ush (i - (z_and (z_ush i 1) 1431655765)) 2) 858993459)) 4)) 252645135) + (z_ush (z_and (((z_and (i - (z_and (z_ush i 1) 1431655765)) 858993459) + (z_and (z_ush (i - (z_and (z_ush i 1) 1431655765)) 2) 858993459)) + (z_ush ((z_and (i - (z_and (z_ush i 1) 1431655765)) 858993459) + (z_and (z_ush (i - (z_and (z_ush i 1) 1431655765)) 2) 858993459)) 4)) 252645135) 8)) 16) ∧ (z_ush ((z_and (((z_and (i - (z_and (z_ush i 1) 1431655765)) 858993459) + (z_and (z_ush (i - (z_and (z_ush i 1) 1431655765)) 2) 858993459)) + (z_ush ((z_and (i - (z_and (z_ush i 1) 1431655765)) 858993459) + (z_and (z_ush (i - (z_and (z_ush i 1) 1431655765)) 2) 858993459)) 4)) 252645135) + (z_ush (z_and (((z_and (i - (z_and (z_ush i 1) 1431655765)) 858993459) + (z_and (z_ush (i - (z_and (z_ush i 1) 1431655765)) 2) 858993459)) + (z_ush ((z_and (i - (z_and (z_ush i 1) 1431655765)) 858993459) + (z_and (z_ush (i - (z_and (z_ush i 1) 1431655765)) 2) 858993459)) 4)) 252645135) 8)) 16) ≤ 2147483647 := z_ushB ((z_and (((z_and (i - (z_and (z_ush i 1) 1431655765)) 858993459) + (z_and (z_ush (i - (z_and (z_ush i 1) 1431655765)) 2) 858993459)) + (z_ush ((z_and (i - (z_and (z_ush i 1) 1431655765)) 858993459) + (z_and (z_ush (i - (z_and (z_ush i 1) 1431655765)) 2) 858993459)) 4)) 252645135) + (z_ush (z_and (((z_and (i - (z_and (z_ush i 1) 1431655765)) 858993459) + (z_and (z_ush (i - (z_and (z_ush i 1) 1431655765)) 2) 858993459)) + (z_ush ((z_and (i - (z_and (z_ush i 1) 1431655765)) 858993459) + (z_and (z_ush (i - (z_and (z_ush i 1) 1431655765)) 2) 858993459)) 4)) 252645135) 8)) 16
  have hb10 : 0 ≤ (z_and (((z_and (((z_and (i - (z_and (z_ush i 1) 1431655765)) 858993459) + (z_and (z_ush (i - (z_and (z_ush i 1) 1431655765)) 2) 858993459)) + (z_ush ((z_and (i - (z_and (z_ush i 1) 1431655765)) 858993459) + (z_and (z_ush (i - (z_and (z_ush i 1) 1431655765)) 2) 858993459)) 4)) 252645135) + (z_ush (z_and (((z_and (i - (z_and (z_ush i 1) 1431655765)) 858993459) + (z_and (z_ush (i - (z_and (z_ush i 1) 1431655765)) 2) 858993459)) + (z_ush ((z_and (i - (z_and (z_ush i 1) 1431655765)) 858993459) + (z_and (z_ush (i - (z_and (z_ush i 1) 1431655765)) 2) 858993459)) 4)) 252645135) 8)) + (z_ush ((z_and (((z_and (i - (z_and (z_ush i 1) 1431655765)) 858993459) + (z_and (z_ush (i - (z_and (z_ush i 1) 1431655765)) 2) 858993459)) + (z_ush ((z_and (i - (z_and (z_ush i 1) 1431655765)) 858993459) + (z_and (z_ush (i - (z_and (z_ush i 1) 1431655765)) 2) 858993459)) 4)) 252645135) + (z_ush (z_and (((z_and (i - (z_and (z_ush i 1) 1431655765)) 858993459) + (z_and (z_ush (i - (z_and (z_ush i 1) 1431655765)) 2) 858993459)) + (z_ush ((z_and (i - (z_and (z_ush i 1) 1431655765)) 858993459) + (z_and (z_ush (i - (z_and (z_ush i 1) 1431655765)) 2) 858993459)) 4)) 252645135) 8)) 16)) 63) ∧ (z_and (((z_and (((z_and (i - (z_and (z_ush i 1) 1431655765)) 858993459) + (z_and (z_ush (i - (z_and (z_ush i 1) 1431655765)) 2) 858993459)) + (z_ush ((z_and (i - (z_and (z_ush i 1) 1431655765)) 858993459) + (z_and (z_ush (i - (z_and (z_ush i 1) 1431655765)) 2) 858993459)) 4)) 252645135) + (z_ush (z_and (((z_and (i - (z_and (z_ush i 1) 1431655765)) 858993459) + (z_and (z_ush (i - (z_and (z_ush i 1) 1431655765)) 2) 858993459)) + (z_ush ((z_and (i - (z_and (z_ush i 1) 1431655765)) 858993459) + (z_and (z_ush (i - (z_and (z_ush i 1) 1431655765)) 2) 858993459)) 4)) 252645135) 8)) + (z_ush ((z_and (((z_and (i - (z_and (z_ush i 1) 1431655765)) 858993459) + (z_and (z_ush (i - (z_and (z_ush i 1) 1431655765)) 2) 858993459)) + (z_ush ((z_and (i - (z_and (z_ush i 1) 1431655765)) 858993459) + (z_and (z_ush (i - (z_and (z_ush i 1) 1431655765)) 2) 858993459)) 4)) 252645135) + (z_ush (z_and (((z_and (i - (z_and (z_ush i 1) 1431655765)) 858993459) + (z_and (z_ush (i - (z_and (z_ush i 1) 1431655765)) 2) 858993459)) + (z_ush ((z_and (i - (z_and (z_ush i 1) 1431655765)) 858993459) + (z_and (z_ush (i - (z_and (z_ush i 1) 1431655765)) 2) 858993459)) 4)) 252645135) 8)) 16)) 63) ≤ 63 := z_andC (((z_and (((z_and (i - (z_and (z_ush i 1) 1431655765)) 858993459) + (z_and (z_ush (i - (z_and (z_ush i 1) 1431655765)) 2) 858993459)) + (z_ush ((z_and (i - (z_and (z_ush i 1) 1431655765)) 858993459) + (z_and (z_ush (i - (z_and (z_ush i 1) 1431655765)) 2) 858993459)) 4)) 252645135) + (z_ush (z_and (((z_and (i - (z_and (z_ush i 1) 1431655765)) 858993459) + (z_and (z_ush (i - (z_and (z_ush i 1) 1431655765)) 2) 858993459)) + (z_ush ((z_and (i - (z_and (z_ush i 1) 1431655765)) 858993459) + (z_and (z_ush (i - (z_and (z_ush i 1) 1431655765)) 2) 858993459)) 4)) 252645135) 8)) + (z_ush ((z_and (((z_and (i - (z_and (z_ush i 1) 1431655765)) 858993459) + (z_and (z_ush (i - (z_and (z_ush i 1) 1431655765)) 2) 858993459)) + (z_ush ((z_and (i - (z_and (z_ush i 1) 1431655765)) 858993459) + (z_and (z_ush (i - (z_and (z_ush i 1) 1431655765)) 2) 858993459)) 4)) 252645135) + (z_ush (z_and (((z_and (i - (z_and (z_ush i 1) 1431655765)) 858993459) + (z_and (z_ush (i - (z_and (z_ush i 1) 1431655765)) 2) 858993459)) + (z_ush ((z_and (i - (z_and (z_ush i 1) 1431655765)) 858993459) + (z_and (z_ush (i - (z_and (z_ush i 1) 1431655765)) 2) 858993459)) 4)) 252645135) 8)) 16)) 63 (by decide)
  have he0 : wr (z_and (((z_and (((z_and (i - (z_and (z_ush i 1) 1431655765)) 858993459) + (z_and (z_ush (i - (z_and (z_ush i 1) 1431655765)) 2) 858993459)) + (z_ush ((z_and (i - (z_and (z_ush i 1) 1431655765)) 858993459) + (z_and (z_ush (i - (z_and (z_ush i 1) 1431655765)) 2) 858993459)) 4)) 252645135) + (z_ush (z_and (((z_and (i - (z_and (z_ush i 1) 1431655765)) 858993459) + (z_and (z_ush (i - (z_and (z_ush i 1) 1431655765)) 2) 858993459)) + (z_ush ((z_and (i - (z_and (z_ush i 1) 1431655765)) 858993459) + (z_and (z_ush (i - (z_and (z_ush i 1) 1431655765)) 2) 858993459)) 4)) 252645135) 8)) + (z_ush ((z_and (((z_and (i - (z_and (z_ush i 1) 1431655765)) 858993459) + (z_and (z_ush (i - (z_and (z_ush i 1) 1431655765)) 2) 858993459)) + (z_ush ((z_and (i - (z_and (z_ush i 1) 1431655765)) 858993459) + (z_and (z_ush (i - (z_and (z_ush i 1) 1431655765)) 2) 858993459)) 4)) 252645135) + (z_ush (z_and (((z_and (i - (z_and (z_ush i 1) 1431655765)) 858993459) + (z_and (z_ush (i - (z_and (z_ush i 1) 1431655765)) 2) 858993459)) + (z_ush ((z_and (i - (z_and (z_ush i 1) 1431655765)) 858993459) + (z_and (z_ush (i - (z_and (z_ush i 1) 1431655765)) 2) 858993459)) 4)) 252645135) 8)) 16)) 63) = (z_and (((z_and (((z_and (i - (z_and (z_ush i 1) 1431655765)) 858993459) + (z_and (z_ush (i - (z_and (z_ush i 1) 1431655765)) 2) 858993459)) + (z_ush ((z_and (i - (z_and (z_ush i 1) 1431655765)) 858993459) + (z_and (z_ush (i - (z_and (z_ush i 1) 1431655765)) 2) 858993459)) 4)) 252645135) + (z_ush (z_and (((z_and (i - (z_and (z_ush i 1) 1431655765)) 858993459) + (z_and (z_ush (i - (z_and (z_ush i 1) 1431655765)) 2) 858993459)) + (z_ush ((z_and (i - (z_and (z_ush i 1) 1431655765)) 858993459) + (z_and (z_ush (i - (z_and (z_ush i 1) 1431655765)) 2) 858993459)) 4)) 252645135) 8)) + (z_ush ((z_and (((z_and (i - (z_and (z_ush i 1) 1431655765)) 858993459) + (z_and (z_ush (i - (z_and (z_ush i 1) 1431655765)) 2) 858993459)) + (z_ush ((z_and (i - (z_and (z_ush i 1) 1431655765)) 858993459) + (z_and (z_ush (i - (z_and (z_ush i 1) 1431655765)) 2) 858993459)) 4)) 252645135) + (z_ush (z_and (((z_and (i - (z_and (z_ush i 1) 1431655765)) 858993459) + (z_and (z_ush (i - (z_and (z_ush i 1) 1431655765)) 2) 858993459)) + (z_ush ((z_and (i - (z_and (z_ush i 1) 1431655765)) 858993459) + (z_and (z_ush (i - (z_and (z_ush i 1) 1431655765)) 2) 858993459)) 4)) 252645135) 8)) 16)) 63) := wr_id (by omega) (by omega)
  have key := @zb293_0r T hT D κ m i
  simp only [he0, Int.toNat_natCast] at key
  exact key
    k1
theorem zb142_0r (hT : zRules T) {D : Nat} {κ : Option zA → zM → Prop} {m : zM} 
    (o1 : T (D + 2) 142 (6, [(0, zr 1), (1, zi 0), (2, zi 0), (3, zi 0)], [], m) κ) :
    T (D + 2) 142 (0, [(0, zr 1)], [], m) κ :=
  hT.1 [(6, [0, 1, 2, 3])] 6 (D + 2) 142 _ κ (o1)
theorem zb142_0 (hT : zRules T) {D : Nat} {κ : Option zA → zM → Prop} {m : zM}  (hB : zB m) 
    (k1 : T (D + 2) 142 (6, [(0, zr 1), (1, zi 0), (2, zi 0), (3, zi 0)], [], m) κ) :
    T (D + 2) 142 (0, [(0, zr 1)], [], m) κ := by
  exact zb142_0r hT
    k1
theorem zb142_6r (hT : zRules T) {D : Nat} {κ : Option zA → zM → Prop} {m : zM} {w : Nat} {o : Nat} {p : Nat} {lo : zL} (hlo : z_keep [0, 1, 2, 3] lo = [(0, zr 1), (1, zi (w : Int)), (2, zi (o : Int)), (3, zi (p : Int))]) 
    (o1 : ¬ wr (p : Int) < wr (m 17 0) → T (D + 1) 293 (0, [(0, zi (o : Int))], [], m) (fun r m1 => T (D + 2) 142 (67, [(0, zr 1), (1, zi (w : Int)), (2, zi (o : Int)), (3, zi (p : Int))], r.toList ++ [zr 72], m1) κ))
    (o2 : wr (p : Int) < wr (m 17 0) → (0 ≤ wr (p : Int) ∧ wr (p : Int) < 6))
    (o3 : wr (p : Int) < wr (m 17 0) → ¬ wr (m 20 ((wr (p : Int)).toNat)) = (-1) → (0 ≤ wr (p : Int) ∧ wr (p : Int) < 6))
    (o4 : wr (p : Int) < wr (m 17 0) → ¬ wr (m 20 ((wr (p : Int)).toNat)) = (-1) → T (D + 2) 142 (6, [(0, zr 1), (1, zi (z_or (w : Int) (z_shl 1 (m 20 ((wr (p : Int)).toNat))))), (2, zi (o : Int)), (3, zi ((p : Int) + 1))], [], m) κ)
    (o5 : wr (p : Int) < wr (m 17 0) → wr (m 20 ((wr (p : Int)).toNat)) = (-1) → T (D + 2) 142 (6, [(0, zr 1), (1, zi (w : Int)), (2, zi (z_or (o : Int) (z_shl 1 (p : Int)))), (3, zi ((p : Int) + 1))], [], m) κ) :
    T (D + 2) 142 (6, lo, [], m) κ :=
  zkeep hT hlo (hT.1 [(6, [0, 1, 2, 3])] 6 (D + 2) 142 _ κ (And.intro (fun a1 => (hT.1 [(6, [0, 1, 2, 3])] 6 (D + 2) 142 (60, [(0, zr 1), (1, zi (w : Int)), (2, zi (o : Int)), (3, zi (p : Int))], [zr 1], m) _ (o1 a1))) (fun a2 => (hT.1 [(6, [0, 1, 2, 3])] 6 (D + 2) 142 (18, [(0, zr 1), (1, zi (w : Int)), (2, zi (o : Int)), (3, zi (p : Int))], [zr 1], m) _ (And.intro (o2 (Classical.byContradiction a2)) (And.intro (fun a3 => (hT.1 [(6, [0, 1, 2, 3])] 6 (D + 2) 142 (39, [(0, zr 1), (1, zi (w : Int)), (2, zi (o : Int)), (3, zi (p : Int))], [], m) _ (hT.1 [(6, [0, 1, 2, 3])] 6 (D + 2) 142 (49, [(0, zr 1), (1, zi (w : Int)), (2, zi (o : Int)), (3, zi (p : Int))], [zi (p : Int), zr 20, zi 1, zi (w : Int)], m) _ (And.intro (o3 (Classical.byContradiction a2) a3) (o4 (Classical.byContradiction a2) a3))))) (fun a4 => (hT.1 [(6, [0, 1, 2, 3])] 6 (D + 2) 142 (30, [(0, zr 1), (1, zi (w : Int)), (2, zi (o : Int)), (3, zi (p : Int))], [], m) _ (hT.1 [(6, [0, 1, 2, 3])] 6 (D + 2) 142 (36, [(0, zr 1), (1, zi (w : Int)), (2, zi (z_or (o : Int) (z_shl 1 (p : Int)))), (3, zi (p : Int))], [], m) _ (o5 (Classical.byContradiction a2) (Classical.byContradiction a4)))))))))))
theorem zb142_6 (hT : zRules T) {D : Nat} {κ : Option zA → zM → Prop} {m : zM} {w : Nat} {o : Nat} {p : Nat} {lo : zL} (hlo : z_keep [0, 1, 2, 3] lo = [(0, zr 1), (1, zi (w : Int)), (2, zi (o : Int)), (3, zi (p : Int))])  (hB : zB m) (h_w : w ≤ 255) (h_o : o ≤ 63) (h_p : p ≤ 6) 
    (k1 : ¬ (p : Int) < (m 17 0) → T (D + 1) 293 (0, [(0, zi (o : Int))], [], m) (fun r m1 => T (D + 2) 142 (67, [(0, zr 1), (1, zi (w : Int)), (2, zi (o : Int)), (3, zi (p : Int))], r.toList ++ [zr 72], m1) κ))
    (k2 : (p : Int) < (m 17 0) → ¬ (m 20 p) = (-1) → T (D + 2) 142 (6, [(0, zr 1), (1, zi (z_or (w : Int) (z_shl 1 (m 20 p)))), (2, zi (o : Int)), (3, zi ((p : Int) + 1))], [], m) κ)
    (k3 : (p : Int) < (m 17 0) → (m 20 p) = (-1) → T (D + 2) 142 (6, [(0, zr 1), (1, zi (w : Int)), (2, zi (z_or (o : Int) (z_shl 1 (p : Int)))), (3, zi ((p : Int) + 1))], [], m) κ) :
    T (D + 2) 142 (6, lo, [], m) κ := by
  have hb3 : 0 ≤ (m 17 0) ∧ (m 17 0) ≤ 6 := hB 17 0
  have hb4 : (-1) ≤ (m 20 p) ∧ (m 20 p) ≤ 7 := hB 20 p
  have hb5 : (-2147483648) ≤ (z_shl 1 (p : Int)) ∧ (z_shl 1 (p : Int)) ≤ 2147483647 := z_shlB 1 (p : Int)
  have hb6 : (-2147483648) ≤ (z_or (o : Int) (z_shl 1 (p : Int))) ∧ (z_or (o : Int) (z_shl 1 (p : Int))) ≤ 2147483647 := z_orB (o : Int) (z_shl 1 (p : Int))
  have hb7 : (-2147483648) ≤ (z_shl 1 (m 20 p)) ∧ (z_shl 1 (m 20 p)) ≤ 2147483647 := z_shlB 1 (m 20 p)
  have hb8 : (-2147483648) ≤ (z_or (w : Int) (z_shl 1 (m 20 p))) ∧ (z_or (w : Int) (z_shl 1 (m 20 p))) ≤ 2147483647 := z_orB (w : Int) (z_shl 1 (m 20 p))
  have he0 : wr (p : Int) = (p : Int) := wr_id (by omega) (by omega)
  have he1 : wr (m 17 0) = (m 17 0) := wr_id (by omega) (by omega)
  have he2 : (p : Int).toNat = p := by omega
  have he3 : wr (m 20 p) = (m 20 p) := wr_id (by omega) (by omega)
  have key := @zb142_6r T hT D κ m w o p lo hlo
  simp only [he0, he1, he2, he3, Int.toNat_natCast] at key
  exact key
    k1
    (fun x0 => by refine ⟨?_, ?_⟩ <;> omega)
    (fun x0 x1 => by refine ⟨?_, ?_⟩ <;> omega)
    k2
    k3
theorem zb142_67r (hT : zRules T) {D : Nat} {κ : Option zA → zM → Prop} {m : zM} {w : Nat} {o : Nat} {v : Int} {lo : zL} (hlo : z_keep [0, 1, 2] lo = [(0, zr 1), (1, zi (w : Int)), (2, zi (o : Int))]) 
    (o1 : κ (some (zi (wr (z_and ((z_shl 1 (m 17 1)) - 1) (z_xor (w : Int) (-1)))))) (zu (zu (zu m 72 1 2) 73 0 v) 73 1 (o : Int))) :
    T (D + 2) 142 (67, lo, [zi v, zr 72], m) κ :=
  zkeep hT hlo (hT.1 [(6, [0, 1, 2, 3])] 6 (D + 2) 142 _ κ (hT.1 [] 6 (D + 1) 46 _ _ (And.intro trivial (hT.1 [] 6 (D + 1) 46 (10, [(0, zr 72), (1, zi v), (2, zi (o : Int))], [zi 0, zr 73], (zu m 72 1 2)) _ (And.intro (And.intro (z_ixL rfl) trivial) (hT.1 [] 6 (D + 1) 46 (18, [(0, zr 72), (1, zi v), (2, zi (o : Int))], [zi (o : Int), zi 1, zr 73], (zu (zu m 72 1 2) 73 0 v)) _ (And.intro (And.intro (z_ixL rfl) trivial) (hT.1 [(6, [0, 1, 2, 3])] 6 (D + 2) 142 _ _ (hT.1 [(6, [0, 1, 2, 3])] 6 (D + 2) 142 (81, [(0, zr 1), (1, zi (w : Int)), (2, zi (o : Int))], [zi 1, zi (z_shl 1 (m 17 1))], (zu (zu (zu m 72 1 2) 73 0 v) 73 1 (o : Int))) _ (o1))))))))))
theorem zb142_67 (hT : zRules T) {D : Nat} {κ : Option zA → zM → Prop} {m : zM} {w : Nat} {o : Nat} {v : Int} {lo : zL} (hlo : z_keep [0, 1, 2] lo = [(0, zr 1), (1, zi (w : Int)), (2, zi (o : Int))])  (hB : zB m) (h_w : w ≤ 255) (h_o : o ≤ 63) (h_v : (-2147483648) ≤ v ∧ v ≤ 2147483647) 
    (k1 : zB (zu (zu (zu m 72 1 2) 73 0 v) 73 1 (o : Int)) → κ (some (zi (z_and ((z_shl 1 (m 17 1)) - 1) (z_xor (w : Int) (-1))))) (zu (zu (zu m 72 1 2) 73 0 v) 73 1 (o : Int))) :
    T (D + 2) 142 (67, lo, [zi v, zr 72], m) κ := by
  have hb3 : 0 ≤ (m 17 1) ∧ (m 17 1) ≤ 8 := hB 17 1
  have hb4 : (-2147483648) ≤ (z_shl 1 (m 17 1)) ∧ (z_shl 1 (m 17 1)) ≤ 2147483647 := z_shlB 1 (m 17 1)
  have hb5 : (-2147483648) ≤ (z_xor (w : Int) (-1)) ∧ (z_xor (w : Int) (-1)) ≤ 2147483647 := z_xorB (w : Int) (-1)
  have hb6 : (-2147483648) ≤ (z_and ((z_shl 1 (m 17 1)) - 1) (z_xor (w : Int) (-1))) ∧ (z_and ((z_shl 1 (m 17 1)) - 1) (z_xor (w : Int) (-1))) ≤ 2147483647 := z_andB ((z_shl 1 (m 17 1)) - 1) (z_xor (w : Int) (-1))
  have he0 : wr (z_and ((z_shl 1 (m 17 1)) - 1) (z_xor (w : Int) (-1))) = (z_and ((z_shl 1 (m 17 1)) - 1) (z_xor (w : Int) (-1))) := wr_id (by omega) (by omega)
  have key := @zb142_67r T hT D κ m w o v lo hlo
  simp only [he0, Int.toNat_natCast] at key
  exact key
    (k1  (zB_u (zB_u (zB_u hB (show 0 ≤ 2 ∧ 2 ≤ 26 from ⟨by omega, by omega⟩)) trivial) trivial))
theorem zb260_0r (hT : zRules T) {D : Nat} {κ : Option zA → zM → Prop} {m : zM} 
    (o1 : T (D + 3) 260 (11, [(0, zr 74), (1, zi 0), (2, zi 0), (3, zi 0)], [], (zu m 74 12 0)) κ) :
    T (D + 3) 260 (0, [(0, zr 74)], [], m) κ :=
  hT.1 [(11, [0, 1, 2, 3]), (50, [0, 1, 2, 3])] 6 (D + 3) 260 _ κ (And.intro trivial (hT.1 [(11, [0, 1, 2, 3]), (50, [0, 1, 2, 3])] 6 (D + 3) 260 (8, [(0, zr 74), (1, zi 0)], [zi 0], (zu m 74 12 0)) _ (o1)))
theorem zb260_0 (hT : zRules T) {D : Nat} {κ : Option zA → zM → Prop} {m : zM}  (hB : zB m) 
    (k1 : zB (zu m 74 12 0) → T (D + 3) 260 (11, [(0, zr 74), (1, zi 0), (2, zi 0), (3, zi 0)], [], (zu m 74 12 0)) κ) :
    T (D + 3) 260 (0, [(0, zr 74)], [], m) κ := by
  exact zb260_0r hT
    (k1  (zB_u hB trivial))
theorem zb260_11r (hT : zRules T) {D : Nat} {κ : Option zA → zM → Prop} {m : zM} {b : Nat} {o : Nat} {c : Nat} {lo : zL} (hlo : z_keep [0, 1, 2, 3] lo = [(0, zr 74), (1, zi (b : Int)), (2, zi (o : Int)), (3, zi (c : Int))]) 
    (o1 : ¬ wr (c : Int) < wr (m 74 6) → T (D + 3) 260 (50, [(0, zr 74), (1, zi (b : Int)), (2, zi (o : Int)), (3, zi 0)], [], m) κ)
    (o2 : wr (c : Int) < wr (m 74 6) → T (D + 2) 217 (0, [(0, zr 74), (1, zr 75), (2, zi (c : Int))], [], m) (fun r m1 => T (D + 3) 260 (29, [(0, zr 74), (1, zi (b : Int)), (2, zi (o : Int)), (3, zi (c : Int))], r.toList ++ [zi (b : Int)], m1) κ)) :
    T (D + 3) 260 (11, lo, [], m) κ :=
  zkeep hT hlo (hT.1 [(11, [0, 1, 2, 3]), (50, [0, 1, 2, 3])] 6 (D + 3) 260 _ κ (And.intro (fun a1 => (o1 a1)) (fun a2 => (hT.1 [(11, [0, 1, 2, 3]), (50, [0, 1, 2, 3])] 6 (D + 3) 260 (21, [(0, zr 74), (1, zi (b : Int)), (2, zi (o : Int)), (3, zi (c : Int))], [zr 74, zi (b : Int)], m) _ (o2 (Classical.byContradiction a2))))))
theorem zb260_11 (hT : zRules T) {D : Nat} {κ : Option zA → zM → Prop} {m : zM} {b : Nat} {o : Nat} {c : Nat} {lo : zL} (hlo : z_keep [0, 1, 2, 3] lo = [(0, zr 74), (1, zi (b : Int)), (2, zi (o : Int)), (3, zi (c : Int))])  (hB : zB m) (h_b : b ≤ 255) (h_o : o ≤ 63) (h_c : c ≤ 8) 
    (k1 : ¬ (c : Int) < (m 74 6) → T (D + 3) 260 (50, [(0, zr 74), (1, zi (b : Int)), (2, zi (o : Int)), (3, zi 0)], [], m) κ)
    (k2 : (c : Int) < (m 74 6) → T (D + 2) 217 (0, [(0, zr 74), (1, zr 75), (2, zi (c : Int))], [], m) (fun r m1 => T (D + 3) 260 (29, [(0, zr 74), (1, zi (b : Int)), (2, zi (o : Int)), (3, zi (c : Int))], r.toList ++ [zi (b : Int)], m1) κ)) :
    T (D + 3) 260 (11, lo, [], m) κ := by
  have hb3 : 0 ≤ (m 74 6) ∧ (m 74 6) ≤ 8 := hB 74 6
  have he0 : wr (c : Int) = (c : Int) := wr_id (by omega) (by omega)
  have he1 : wr (m 74 6) = (m 74 6) := wr_id (by omega) (by omega)
  have key := @zb260_11r T hT D κ m b o c lo hlo
  simp only [he0, he1, Int.toNat_natCast] at key
  exact key
    k1
    k2
theorem zb260_29r (hT : zRules T) {D : Nat} {κ : Option zA → zM → Prop} {m : zM} {b : Nat} {o : Nat} {c : Nat} {v : Int} {lo : zL} (hlo : z_keep [0, 2, 3] lo = [(0, zr 74), (2, zi (o : Int)), (3, zi (c : Int))]) 
    (o1 : ¬ wr v = (-1) → T (D + 3) 260 (11, [(0, zr 74), (1, zi (z_or (b : Int) 0)), (2, zi (o : Int)), (3, zi ((c : Int) + 1))], [], m) κ)
    (o2 : wr v = (-1) → T (D + 3) 260 (11, [(0, zr 74), (1, zi (z_or (b : Int) (z_shl 1 (c : Int)))), (2, zi (o : Int)), (3, zi ((c : Int) + 1))], [], m) κ) :
    T (D + 3) 260 (29, lo, [zi v, zi (b : Int)], m) κ :=
  zkeep hT hlo (hT.1 [(11, [0, 1, 2, 3]), (50, [0, 1, 2, 3])] 6 (D + 3) 260 _ κ (And.intro (fun a1 => (hT.1 [(11, [0, 1, 2, 3]), (50, [0, 1, 2, 3])] 6 (D + 3) 260 (45, [(0, zr 74), (1, zi (z_or (b : Int) 0)), (2, zi (o : Int)), (3, zi ((c : Int) + 1))], [], m) _ (o1 a1))) (fun a2 => (hT.1 [(11, [0, 1, 2, 3]), (50, [0, 1, 2, 3])] 6 (D + 3) 260 (40, [(0, zr 74), (2, zi (o : Int)), (3, zi (c : Int))], [zi (z_shl 1 (c : Int)), zi (b : Int)], m) _ (o2 (Classical.byContradiction a2))))))
theorem zb260_29 (hT : zRules T) {D : Nat} {κ : Option zA → zM → Prop} {m : zM} {b : Nat} {o : Nat} {c : Nat} {v : Int} {lo : zL} (hlo : z_keep [0, 2, 3] lo = [(0, zr 74), (2, zi (o : Int)), (3, zi (c : Int))])  (hB : zB m) (h_b : b ≤ 255) (h_o : o ≤ 63) (h_c : c ≤ 7) (h_v : (-1) ≤ v ∧ v ≤ 5) 
    (k1 : ¬ v = (-1) → T (D + 3) 260 (11, [(0, zr 74), (1, zi (z_or (b : Int) 0)), (2, zi (o : Int)), (3, zi ((c : Int) + 1))], [], m) κ)
    (k2 : v = (-1) → T (D + 3) 260 (11, [(0, zr 74), (1, zi (z_or (b : Int) (z_shl 1 (c : Int)))), (2, zi (o : Int)), (3, zi ((c : Int) + 1))], [], m) κ) :
    T (D + 3) 260 (29, lo, [zi v, zi (b : Int)], m) κ := by
  have hb4 : (-2147483648) ≤ (z_shl 1 (c : Int)) ∧ (z_shl 1 (c : Int)) ≤ 2147483647 := z_shlB 1 (c : Int)
  have hb5 : (-2147483648) ≤ (z_or (b : Int) (z_shl 1 (c : Int))) ∧ (z_or (b : Int) (z_shl 1 (c : Int))) ≤ 2147483647 := z_orB (b : Int) (z_shl 1 (c : Int))
  have hb6 : (-2147483648) ≤ (z_or (b : Int) 0) ∧ (z_or (b : Int) 0) ≤ 2147483647 := z_orB (b : Int) 0
  have he0 : wr v = v := wr_id (by omega) (by omega)
  have key := @zb260_29r T hT D κ m b o c v lo hlo
  simp only [he0, Int.toNat_natCast] at key
  exact key
    k1
    k2
theorem zb260_50r (hT : zRules T) {D : Nat} {κ : Option zA → zM → Prop} {m : zM} {b : Nat} {o : Nat} {p : Nat} {lo : zL} (hlo : z_keep [0, 1, 2, 3] lo = [(0, zr 74), (1, zi (b : Int)), (2, zi (o : Int)), (3, zi (p : Int))]) 
    (o1 : ¬ wr (p : Int) < wr (m 74 4) → T (D + 2) 293 (0, [(0, zi (o : Int))], [], (zu m 74 11 0)) (fun r m1 => T (D + 3) 260 (97, [(0, zr 74), (1, zi (b : Int)), (2, zi (o : Int)), (3, zi (p : Int))], r.toList ++ [zr 74], m1) κ))
    (o2 : wr (p : Int) < wr (m 74 4) → (0 ≤ wr (6 + (p : Int)) ∧ wr (6 + (p : Int)) < 59))
    (o3 : wr (p : Int) < wr (m 74 4) → ¬ wr (m 75 ((wr (6 + (p : Int))).toNat)) = (-1) → T (D + 3) 260 (50, [(0, zr 74), (1, zi (b : Int)), (2, zi (z_or (o : Int) 0)), (3, zi ((p : Int) + 1))], [], m) κ)
    (o4 : wr (p : Int) < wr (m 74 4) → wr (m 75 ((wr (6 + (p : Int))).toNat)) = (-1) → T (D + 3) 260 (50, [(0, zr 74), (1, zi (b : Int)), (2, zi (z_or (o : Int) (z_shl 1 (p : Int)))), (3, zi ((p : Int) + 1))], [], m) κ) :
    T (D + 3) 260 (50, lo, [], m) κ :=
  zkeep hT hlo (hT.1 [(11, [0, 1, 2, 3]), (50, [0, 1, 2, 3])] 6 (D + 3) 260 _ κ (And.intro (fun a1 => (hT.1 [(11, [0, 1, 2, 3]), (50, [0, 1, 2, 3])] 6 (D + 3) 260 (89, [(0, zr 74), (1, zi (b : Int)), (2, zi (o : Int)), (3, zi (p : Int))], [zi 0, zr 74], m) _ (And.intro trivial (o1 a1)))) (fun a2 => (hT.1 [(11, [0, 1, 2, 3]), (50, [0, 1, 2, 3])] 6 (D + 3) 260 (60, [(0, zr 74), (1, zi (b : Int)), (2, zi (o : Int)), (3, zi (p : Int))], [zr 74, zi (o : Int)], m) _ (And.intro (o2 (Classical.byContradiction a2)) (hT.1 [(11, [0, 1, 2, 3]), (50, [0, 1, 2, 3])] 6 (D + 3) 260 (69, [(0, zr 74), (1, zi (b : Int)), (2, zi (o : Int)), (3, zi (p : Int))], [zi (-1), zi (m 75 ((wr (6 + (p : Int))).toNat)), zi (o : Int)], m) _ (And.intro (fun a3 => (o3 (Classical.byContradiction a2) a3)) (fun a4 => (hT.1 [(11, [0, 1, 2, 3]), (50, [0, 1, 2, 3])] 6 (D + 3) 260 (80, [(0, zr 74), (1, zi (b : Int)), (2, zi (o : Int)), (3, zi (p : Int))], [zi (z_or (o : Int) (z_shl 1 (p : Int)))], m) _ (o4 (Classical.byContradiction a2) (Classical.byContradiction a4)))))))))))
theorem zb260_50 (hT : zRules T) {D : Nat} {κ : Option zA → zM → Prop} {m : zM} {b : Nat} {o : Nat} {p : Nat} {lo : zL} (hlo : z_keep [0, 1, 2, 3] lo = [(0, zr 74), (1, zi (b : Int)), (2, zi (o : Int)), (3, zi (p : Int))])  (hB : zB m) (h_b : b ≤ 255) (h_o : o ≤ 63) (h_p : p ≤ 6) 
    (k1 : ¬ (p : Int) < (m 74 4) → zB (zu m 74 11 0) → T (D + 2) 293 (0, [(0, zi (o : Int))], [], (zu m 74 11 0)) (fun r m1 => T (D + 3) 260 (97, [(0, zr 74), (1, zi (b : Int)), (2, zi (o : Int)), (3, zi (p : Int))], r.toList ++ [zr 74], m1) κ))
    (k2 : (p : Int) < (m 74 4) → ¬ (m 75 (p + 6)) = (-1) → T (D + 3) 260 (50, [(0, zr 74), (1, zi (b : Int)), (2, zi (z_or (o : Int) 0)), (3, zi ((p : Int) + 1))], [], m) κ)
    (k3 : (p : Int) < (m 74 4) → (m 75 (p + 6)) = (-1) → T (D + 3) 260 (50, [(0, zr 74), (1, zi (b : Int)), (2, zi (z_or (o : Int) (z_shl 1 (p : Int)))), (3, zi ((p : Int) + 1))], [], m) κ) :
    T (D + 3) 260 (50, lo, [], m) κ := by
  have hb3 : 0 ≤ (m 74 4) ∧ (m 74 4) ≤ 6 := hB 74 4
  have hb4 : (-1) ≤ (m 75 (p + 6)) ∧ (m 75 (p + 6)) ≤ 99 := zSg hB 75 6 20 (-1) 99 rfl (p + 6) (by omega) (by omega)
  have hb5 : (-2147483648) ≤ (z_shl 1 (p : Int)) ∧ (z_shl 1 (p : Int)) ≤ 2147483647 := z_shlB 1 (p : Int)
  have hb6 : (-2147483648) ≤ (z_or (o : Int) (z_shl 1 (p : Int))) ∧ (z_or (o : Int) (z_shl 1 (p : Int))) ≤ 2147483647 := z_orB (o : Int) (z_shl 1 (p : Int))
  have hb7 : (-2147483648) ≤ (z_or (o : Int) 0) ∧ (z_or (o : Int) 0) ≤ 2147483647 := z_orB (o : Int) 0
  have he0 : wr (p : Int) = (p : Int) := wr_id (by omega) (by omega)
  have he1 : wr (m 74 4) = (m 74 4) := wr_id (by omega) (by omega)
  have he2 : wr (6 + (p : Int)) = (6 + (p : Int)) := wr_id (by omega) (by omega)
  have he3 : (6 + (p : Int)).toNat = p + 6 := by omega
  have he4 : wr (m 75 (p + 6)) = (m 75 (p + 6)) := wr_id (by omega) (by omega)
  have key := @zb260_50r T hT D κ m b o p lo hlo
  simp only [he0, he1, he2, he3, he4, Int.toNat_natCast] at key
  exact key
    (fun x0 => k1 x0 (zB_u hB (show 0 ≤ 0 ∧ 0 ≤ 32 from ⟨by omega, by omega⟩)))
    (fun x0 => by refine ⟨?_, ?_⟩ <;> omega)
    k2
    k3
theorem zb260_97r (hT : zRules T) {D : Nat} {κ : Option zA → zM → Prop} {m : zM} {b : Nat} {o : Nat} {v : Int} {lo : zL} (hlo : z_keep [0, 1, 2] lo = [(0, zr 74), (1, zi (b : Int)), (2, zi (o : Int))]) 
    (o1 : (0 ≤ wr (m 74 11) ∧ wr (m 74 11) < 32))
    (o2 : (0 ≤ wr ((m 74 11) + 1) ∧ wr ((m 74 11) + 1) < 32))
    (o3 : κ (some (zi (wr (b : Int)))) (zu (zu (zu (zu m 81 ((wr (m 74 11)).toNat) v) 74 11 ((m 74 11) + 1)) 81 ((wr ((m 74 11) + 1)).toNat) (o : Int)) 74 11 (((m 74 11) + 1) + 1))) :
    T (D + 3) 260 (97, lo, [zi v, zr 74], m) κ :=
  zkeep hT hlo (hT.1 [(11, [0, 1, 2, 3]), (50, [0, 1, 2, 3])] 6 (D + 3) 260 _ κ (hT.1 [] 6 (D + 2) 189 _ _ (And.intro (And.intro (o1) trivial) (hT.1 [] 6 (D + 2) 189 (10, [(0, zr 74), (1, zi v)], [], (zu m 81 ((wr (m 74 11)).toNat) v)) _ (And.intro trivial (hT.1 [] 6 (D + 2) 189 (20, [(0, zr 74), (1, zi v)], [], (zu (zu m 81 ((wr (m 74 11)).toNat) v) 74 11 ((m 74 11) + 1))) _ (hT.1 [(11, [0, 1, 2, 3]), (50, [0, 1, 2, 3])] 6 (D + 3) 260 _ _ (hT.1 [] 6 (D + 2) 189 _ _ (And.intro (And.intro (o2) trivial) (hT.1 [] 6 (D + 2) 189 (10, [(0, zr 74), (1, zi (o : Int))], [], (zu (zu (zu m 81 ((wr (m 74 11)).toNat) v) 74 11 ((m 74 11) + 1)) 81 ((wr ((m 74 11) + 1)).toNat) (o : Int))) _ (And.intro trivial (hT.1 [] 6 (D + 2) 189 (20, [(0, zr 74), (1, zi (o : Int))], [], (zu (zu (zu (zu m 81 ((wr (m 74 11)).toNat) v) 74 11 ((m 74 11) + 1)) 81 ((wr ((m 74 11) + 1)).toNat) (o : Int)) 74 11 (((m 74 11) + 1) + 1))) _ (hT.1 [(11, [0, 1, 2, 3]), (50, [0, 1, 2, 3])] 6 (D + 3) 260 _ _ (o3))))))))))))))
theorem zb260_97 (hT : zRules T) {D : Nat} {κ : Option zA → zM → Prop} {m : zM} {b : Nat} {o : Nat} {v : Int} {lo : zL} (hlo : z_keep [0, 1, 2] lo = [(0, zr 74), (1, zi (b : Int)), (2, zi (o : Int))])  (hB : zB m) (h_b : b ≤ 255) (h_o : o ≤ 63) (h_v : (-2147483648) ≤ v ∧ v ≤ 2147483647) (hf0 : 0 ≤ m 74 11 ∧ m 74 11 ≤ 0) 
    (k1 : zB (zu (zu (zu (zu m 81 ((m 74 11).toNat) v) 74 11 ((m 74 11) + 1)) 81 (((m 74 11) + 1).toNat) (o : Int)) 74 11 (((m 74 11) + 1) + 1)) → κ (some (zi (b : Int))) (zu (zu (zu (zu m 81 ((m 74 11).toNat) v) 74 11 ((m 74 11) + 1)) 81 (((m 74 11) + 1).toNat) (o : Int)) 74 11 (((m 74 11) + 1) + 1))) :
    T (D + 3) 260 (97, lo, [zi v, zr 74], m) κ := by
  have he0 : wr (m 74 11) = (m 74 11) := wr_id (by omega) (by omega)
  have he1 : wr ((m 74 11) + 1) = ((m 74 11) + 1) := wr_id (by omega) (by omega)
  have he2 : wr (b : Int) = (b : Int) := wr_id (by omega) (by omega)
  have key := @zb260_97r T hT D κ m b o v lo hlo
  simp only [he0, he1, he2, Int.toNat_natCast] at key
  exact key
    (by refine ⟨?_, ?_⟩ <;> omega)
    (by refine ⟨?_, ?_⟩ <;> omega)
    (k1  (zB_u (zB_u (zB_u (zB_u hB trivial) (show 0 ≤ ((m 74 11) + 1) ∧ ((m 74 11) + 1) ≤ 32 from ⟨by omega, by omega⟩)) trivial) (show 0 ≤ (((m 74 11) + 1) + 1) ∧ (((m 74 11) + 1) + 1) ≤ 32 from ⟨by omega, by omega⟩)))
theorem zb150_0r (hT : zRules T) {D : Nat} {κ : Option zA → zM → Prop} {m : zM} {f : Int} 
    (o1 : wr f < 0 → κ (some (zi (-1))) m)
    (o2 : ¬ wr f < 0 → ¬ 99 < wr f → T (D + 7) 150 (19, [(0, zr 1), (1, zi f), (2, zi 0), (3, zi 0), (4, zi 0)], [], m) κ)
    (o3 : ¬ wr f < 0 → 99 < wr f → κ (some (zi (-1))) m) :
    T (D + 7) 150 (0, [(0, zr 1), (1, zi f)], [], m) κ :=
  hT.1 [(19, [0, 1, 2, 3, 4])] 6 (D + 7) 150 _ κ (And.intro (fun a1 => (o1 a1)) (fun a2 => (And.intro (fun a3 => (hT.1 [(19, [0, 1, 2, 3, 4])] 6 (D + 7) 150 (13, [(0, zr 1), (1, zi f)], [zi 0], m) _ (o2 a2 a3))) (fun a4 => (hT.1 [(19, [0, 1, 2, 3, 4])] 6 (D + 7) 150 (11, [(0, zr 1), (1, zi f)], [zi (-1)], m) _ (o3 a2 (Classical.byContradiction a4)))))))
theorem zb150_0 (hT : zRules T) {D : Nat} {κ : Option zA → zM → Prop} {m : zM} {f : Int}  (hB : zB m) (h_f : (-2147483648) ≤ f ∧ f ≤ 2147483647) 
    (k1 : f < 0 → κ (some (zi (-1))) m)
    (k2 : ¬ f < 0 → ¬ 99 < f → T (D + 7) 150 (19, [(0, zr 1), (1, zi f), (2, zi 0), (3, zi 0), (4, zi 0)], [], m) κ)
    (k3 : ¬ f < 0 → 99 < f → κ (some (zi (-1))) m) :
    T (D + 7) 150 (0, [(0, zr 1), (1, zi f)], [], m) κ := by
  have he0 : wr f = f := wr_id (by omega) (by omega)
  have key := @zb150_0r T hT D κ m f
  simp only [he0, Int.toNat_natCast] at key
  exact key
    k1
    k2
    k3
theorem zb150_19r (hT : zRules T) {D : Nat} {κ : Option zA → zM → Prop} {m : zM} {f : Int} {s : Int} {o : Nat} {i : Nat} {lo : zL} (hlo : z_keep [0, 1, 2, 3, 4] lo = [(0, zr 1), (1, zi f), (2, zi s), (3, zi (o : Int)), (4, zi (i : Int))]) 
    (o1 : ¬ wr (i : Int) < wr (m 59 4) → κ (some (zi (wr s))) (zu (zu m 72 1 1) 73 0 (o : Int)))
    (o2 : wr (i : Int) < wr (m 59 4) → (0 ≤ wr (i : Int) ∧ wr (i : Int) < 12))
    (o3 : wr (i : Int) < wr (m 59 4) → T (D + 6) 182 (0, [(0, zr 1), (1, zi (i : Int)), (2, zi 0)], [], m) (fun r m1 => T (D + 7) 150 (48, [(0, zr 1), (1, zi f), (2, zi s), (3, zi (o : Int)), (4, zi (i : Int))], r.toList ++ [zi (m 63 ((wr (i : Int)).toNat))], m1) κ)) :
    T (D + 7) 150 (19, lo, [], m) κ :=
  zkeep hT hlo (hT.1 [(19, [0, 1, 2, 3, 4])] 6 (D + 7) 150 _ κ (And.intro (fun a1 => (hT.1 [(19, [0, 1, 2, 3, 4])] 6 (D + 7) 150 (82, [(0, zr 1), (1, zi f), (2, zi s), (3, zi (o : Int)), (4, zi (i : Int))], [zr 1], m) _ (hT.1 [] 6 (D + 6) 45 _ _ (And.intro trivial (hT.1 [] 6 (D + 6) 45 (10, [(0, zr 72), (1, zi (o : Int))], [zi 0, zr 73], (zu m 72 1 1)) _ (And.intro (And.intro (z_ixL rfl) trivial) (hT.1 [(19, [0, 1, 2, 3, 4])] 6 (D + 7) 150 _ _ (o1 a1)))))))) (fun a2 => (hT.1 [(19, [0, 1, 2, 3, 4])] 6 (D + 7) 150 (32, [(0, zr 1), (1, zi f), (2, zi s), (3, zi (o : Int)), (4, zi (i : Int))], [zr 1], m) _ (And.intro (o2 (Classical.byContradiction a2)) (hT.1 [(19, [0, 1, 2, 3, 4])] 6 (D + 7) 150 (44, [(0, zr 1), (1, zi f), (2, zi s), (3, zi (o : Int)), (4, zi (i : Int))], [zi (i : Int), zr 1, zi (m 63 ((wr (i : Int)).toNat))], m) _ (o3 (Classical.byContradiction a2))))))))
theorem zb150_19 (hT : zRules T) {D : Nat} {κ : Option zA → zM → Prop} {m : zM} {f : Int} {s : Int} {o : Nat} {i : Nat} {lo : zL} (hlo : z_keep [0, 1, 2, 3, 4] lo = [(0, zr 1), (1, zi f), (2, zi s), (3, zi (o : Int)), (4, zi (i : Int))])  (hB : zB m) (h_f : 0 ≤ f ∧ f ≤ 99) (h_s : 0 ≤ s ∧ s ≤ 118800) (h_o : o ≤ 4095) (h_i : i ≤ 12) 
    (k1 : ¬ (i : Int) < (m 59 4) → zB (zu (zu m 72 1 1) 73 0 (o : Int)) → κ (some (zi s)) (zu (zu m 72 1 1) 73 0 (o : Int)))
    (k2 : (i : Int) < (m 59 4) → T (D + 6) 182 (0, [(0, zr 1), (1, zi (i : Int)), (2, zi 0)], [], m) (fun r m1 => T (D + 7) 150 (48, [(0, zr 1), (1, zi f), (2, zi s), (3, zi (o : Int)), (4, zi (i : Int))], r.toList ++ [zi (m 63 i)], m1) κ)) :
    T (D + 7) 150 (19, lo, [], m) κ := by
  have hb4 : 0 ≤ (m 59 4) ∧ (m 59 4) ≤ 12 := hB 59 4
  have hb5 : 0 ≤ (m 63 i) ∧ (m 63 i) ≤ 99 := hB 63 i
  have he0 : wr (i : Int) = (i : Int) := wr_id (by omega) (by omega)
  have he1 : wr (m 59 4) = (m 59 4) := wr_id (by omega) (by omega)
  have he2 : (i : Int).toNat = i := by omega
  have he3 : wr s = s := wr_id (by omega) (by omega)
  have key := @zb150_19r T hT D κ m f s o i lo hlo
  simp only [he0, he1, he2, he3, Int.toNat_natCast] at key
  exact key
    (fun x0 => k1 x0 (zB_u (zB_u hB (show 0 ≤ 1 ∧ 1 ≤ 26 from ⟨by omega, by omega⟩)) trivial))
    (fun x0 => by refine ⟨?_, ?_⟩ <;> omega)
    k2
theorem zb150_48r (hT : zRules T) {D : Nat} {κ : Option zA → zM → Prop} {m : zM} {f : Int} {s : Int} {o : Nat} {i : Nat} {v : Int} {x : Int} {lo : zL} (hlo : z_keep [0, 1, 2, 3, 4] lo = [(0, zr 1), (1, zi f), (2, zi s), (3, zi (o : Int)), (4, zi (i : Int))]) 
    (o1 : ¬ wr (x - v) < 0 → wr (wr (x - v)) = 0 → T (D + 7) 150 (19, [(0, zr 1), (1, zi f), (2, zi s), (3, zi (o : Int)), (4, zi ((i : Int) + 1))], [], m) κ)
    (o2 : ¬ wr (x - v) < 0 → ¬ wr (wr (x - v)) = 0 → T (D + 7) 150 (19, [(0, zr 1), (1, zi f), (2, zi (s + (f * (wr (x - v) + 1)))), (3, zi (z_or (o : Int) (z_shl 1 (i : Int)))), (4, zi ((i : Int) + 1))], [], m) κ)
    (o3 : wr (x - v) < 0 → wr (wr (-(x - v))) = 0 → False)
    (o4 : wr (x - v) < 0 → ¬ wr (wr (-(x - v))) = 0 → T (D + 7) 150 (19, [(0, zr 1), (1, zi f), (2, zi (s + (f * (wr (-(x - v)) + 1)))), (3, zi (z_or (o : Int) (z_shl 1 (i : Int)))), (4, zi ((i : Int) + 1))], [], m) κ) :
    T (D + 7) 150 (48, lo, [zi v, zi x], m) κ :=
  zkeep hT hlo (hT.1 [(19, [0, 1, 2, 3, 4])] 6 (D + 7) 150 _ κ (hT.1 [] 6 (D + 6) 297 _ _ (And.intro (fun a1 => (hT.1 [(19, [0, 1, 2, 3, 4])] 6 (D + 7) 150 _ _ (And.intro (fun a3 => (o1 a1 a3)) (fun a4 => (hT.1 [(19, [0, 1, 2, 3, 4])] 6 (D + 7) 150 (63, [(0, zr 1), (1, zi f), (2, zi s), (3, zi (o : Int)), (4, zi (i : Int)), (5, zi (wr (x - v)))], [zi (wr (x - v)), zi f, zi s], m) _ (hT.1 [(19, [0, 1, 2, 3, 4])] 6 (D + 7) 150 (69, [(0, zr 1), (1, zi f), (2, zi (s + (f * (wr (x - v) + 1)))), (3, zi (o : Int)), (4, zi (i : Int)), (5, zi (wr (x - v)))], [zi (o : Int)], m) _ (hT.1 [(19, [0, 1, 2, 3, 4])] 6 (D + 7) 150 (78, [(0, zr 1), (1, zi f), (2, zi (s + (f * (wr (x - v) + 1)))), (3, zi (z_or (o : Int) (z_shl 1 (i : Int)))), (4, zi ((i : Int) + 1)), (5, zi (wr (x - v)))], [], m) _ (o2 a1 a4)))))))) (fun a2 => (hT.1 [(19, [0, 1, 2, 3, 4])] 6 (D + 7) 150 _ _ (And.intro (fun a5 => (o3 (Classical.byContradiction a2) a5).elim) (fun a6 => (hT.1 [(19, [0, 1, 2, 3, 4])] 6 (D + 7) 150 (63, [(0, zr 1), (1, zi f), (2, zi s), (3, zi (o : Int)), (4, zi (i : Int)), (5, zi (wr (-(x - v))))], [zi (wr (-(x - v))), zi f, zi s], m) _ (hT.1 [(19, [0, 1, 2, 3, 4])] 6 (D + 7) 150 (69, [(0, zr 1), (1, zi f), (2, zi (s + (f * (wr (-(x - v)) + 1)))), (3, zi (o : Int)), (4, zi (i : Int)), (5, zi (wr (-(x - v))))], [zi (o : Int)], m) _ (hT.1 [(19, [0, 1, 2, 3, 4])] 6 (D + 7) 150 (78, [(0, zr 1), (1, zi f), (2, zi (s + (f * (wr (-(x - v)) + 1)))), (3, zi (z_or (o : Int) (z_shl 1 (i : Int)))), (4, zi ((i : Int) + 1)), (5, zi (wr (-(x - v))))], [], m) _ (o4 (Classical.byContradiction a2) a6)))))))))))
theorem zb150_48 (hT : zRules T) {D : Nat} {κ : Option zA → zM → Prop} {m : zM} {f : Int} {s : Int} {o : Nat} {i : Nat} {v : Int} {x : Int} {lo : zL} (hlo : z_keep [0, 1, 2, 3, 4] lo = [(0, zr 1), (1, zi f), (2, zi s), (3, zi (o : Int)), (4, zi (i : Int))])  (hB : zB m) (h_f : 0 ≤ f ∧ f ≤ 99) (h_s : 0 ≤ s ∧ s ≤ 118800) (h_o : o ≤ 4095) (h_i : i ≤ 11) (h_v : 0 ≤ v ∧ v ≤ 99) (h_x : 0 ≤ x ∧ x ≤ 99) 
    (k1 : ¬ (x - v) < 0 → (x - v) = 0 → T (D + 7) 150 (19, [(0, zr 1), (1, zi f), (2, zi s), (3, zi (o : Int)), (4, zi ((i : Int) + 1))], [], m) κ)
    (k2 : ¬ (x - v) < 0 → ¬ (x - v) = 0 → T (D + 7) 150 (19, [(0, zr 1), (1, zi f), (2, zi (s + (f * ((x - v) + 1)))), (3, zi (z_or (o : Int) (z_shl 1 (i : Int)))), (4, zi ((i : Int) + 1))], [], m) κ)
    (k3 : (x - v) < 0 → T (D + 7) 150 (19, [(0, zr 1), (1, zi f), (2, zi (s + (f * ((-(x - v)) + 1)))), (3, zi (z_or (o : Int) (z_shl 1 (i : Int)))), (4, zi ((i : Int) + 1))], [], m) κ) :
    T (D + 7) 150 (48, lo, [zi v, zi x], m) κ := by
  have hb6 : (-2147483648) ≤ (z_shl 1 (i : Int)) ∧ (z_shl 1 (i : Int)) ≤ 2147483647 := z_shlB 1 (i : Int)
  have hb7 : (-2147483648) ≤ (z_or (o : Int) (z_shl 1 (i : Int))) ∧ (z_or (o : Int) (z_shl 1 (i : Int))) ≤ 2147483647 := z_orB (o : Int) (z_shl 1 (i : Int))
  have he0 : wr (x - v) = (x - v) := wr_id (by omega) (by omega)
  have he1 : wr (-(x - v)) = (-(x - v)) := wr_id (by omega) (by omega)
  have key := @zb150_48r T hT D κ m f s o i v x lo hlo
  simp only [he0, he1, Int.toNat_natCast] at key
  exact key
    k1
    k2
    (fun x0 x1 => by omega)
    (fun x0 x1 => k3 x0)
theorem zb182_0r (hT : zRules T) {D : Nat} {κ : Option zA → zM → Prop} {m : zM} {i : Nat} {l : Int} 
    (o1 : (0 ≤ wr (i : Int) ∧ wr (i : Int) < 12))
    (o2 : (0 ≤ wr (i : Int) ∧ wr (i : Int) < 12))
    (o3 : (0 ≤ wr (i : Int) ∧ wr (i : Int) < 12))
    (o4 : T (D + 5) 169 (0, [(0, zr 1), (1, zi (m 60 ((wr (i : Int)).toNat))), (2, zi (m 61 ((wr (i : Int)).toNat))), (3, zi ((m 62 ((wr (i : Int)).toNat)) + l))], [], m) (fun r m1 => T (D + 6) 182 (33, [(0, zr 1), (1, zi (i : Int)), (2, zi l)], r.toList ++ [], m1) κ)) :
    T (D + 6) 182 (0, [(0, zr 1), (1, zi (i : Int)), (2, zi l)], [], m) κ :=
  hT.1 [] 6 (D + 6) 182 _ κ (And.intro (o1) (hT.1 [] 6 (D + 6) 182 (10, [(0, zr 1), (1, zi (i : Int)), (2, zi l)], [zi (m 60 ((wr (i : Int)).toNat)), zr 1], m) _ (And.intro (o2) (hT.1 [] 6 (D + 6) 182 (20, [(0, zr 1), (1, zi (i : Int)), (2, zi l)], [zr 1, zi (m 61 ((wr (i : Int)).toNat)), zi (m 60 ((wr (i : Int)).toNat)), zr 1], m) _ (And.intro (o3) (hT.1 [] 6 (D + 6) 182 (30, [(0, zr 1), (1, zi (i : Int)), (2, zi l)], [zi ((m 62 ((wr (i : Int)).toNat)) + l), zi (m 61 ((wr (i : Int)).toNat)), zi (m 60 ((wr (i : Int)).toNat)), zr 1], m) _ (o4)))))))
theorem zb182_0 (hT : zRules T) {D : Nat} {κ : Option zA → zM → Prop} {m : zM} {i : Nat} {l : Int}  (hB : zB m) (h_i : i ≤ 11) (h_l : (-13) ≤ l ∧ l ≤ 13) 
    (k1 : T (D + 5) 169 (0, [(0, zr 1), (1, zi (m 60 i)), (2, zi (m 61 i)), (3, zi ((m 62 i) + l))], [], m) (fun r m1 => T (D + 6) 182 (33, [(0, zr 1), (1, zi (i : Int)), (2, zi l)], r.toList ++ [], m1) κ)) :
    T (D + 6) 182 (0, [(0, zr 1), (1, zi (i : Int)), (2, zi l)], [], m) κ := by
  have hb2 : 0 ≤ (m 60 i) ∧ (m 60 i) ≤ 5 := hB 60 i
  have hb3 : 0 ≤ (m 61 i) ∧ (m 61 i) ≤ 3 := hB 61 i
  have hb4 : 0 ≤ (m 62 i) ∧ (m 62 i) ≤ 9999 := hB 62 i
  have he0 : wr (i : Int) = (i : Int) := wr_id (by omega) (by omega)
  have he1 : (i : Int).toNat = i := by omega
  have key := @zb182_0r T hT D κ m i l
  simp only [he0, he1, Int.toNat_natCast] at key
  exact key
    (by refine ⟨?_, ?_⟩ <;> omega)
    (by refine ⟨?_, ?_⟩ <;> omega)
    (by refine ⟨?_, ?_⟩ <;> omega)
    k1
theorem zb182_33r (hT : zRules T) {D : Nat} {κ : Option zA → zM → Prop} {m : zM} {v : Int} {lo : zL} (hlo : z_keep [] lo = []) 
    (o1 : κ (some (zi (wr v))) m) :
    T (D + 6) 182 (33, lo, [zi v], m) κ :=
  zkeep hT hlo (hT.1 [] 6 (D + 6) 182 _ κ (o1))
theorem zb182_33 (hT : zRules T) {D : Nat} {κ : Option zA → zM → Prop} {m : zM} {v : Int} {lo : zL} (hlo : z_keep [] lo = [])  (h_v : 0 ≤ v ∧ v ≤ 99) 
    (k1 : κ (some (zi v)) m) :
    T (D + 6) 182 (33, lo, [zi v], m) κ := by
  have he0 : wr v = v := wr_id (by omega) (by omega)
  have key := @zb182_33r T hT D κ m v lo hlo
  simp only [he0, Int.toNat_natCast] at key
  exact key
    k1
theorem zb275_0r (hT : zRules T) {D : Nat} {κ : Option zA → zM → Prop} {m : zM} {f : Int} 
    (o1 : wr f < 0 → κ (some (zi (-1))) (zu m 74 12 0))
    (o2 : ¬ wr f < 0 → 99 < wr f → κ (some (zi (-1))) (zu m 74 12 0))
    (o3 : ¬ wr f < 0 → ¬ 99 < wr f → T (D + 4) 275 (24, [(0, zr 74), (1, zi f), (2, zi 0), (3, zi 0), (4, zi 0)], [], (zu m 74 12 0)) κ) :
    T (D + 4) 275 (0, [(0, zr 74), (1, zi f)], [], m) κ :=
  hT.1 [(24, [0, 1, 2, 3, 4])] 6 (D + 4) 275 _ κ (And.intro trivial (hT.1 [(24, [0, 1, 2, 3, 4])] 6 (D + 4) 275 (9, [(0, zr 74), (1, zi f)], [zi 99, zi 0, zi f], (zu m 74 12 0)) _ (hT.1 [] 6 (D + 3) 186 _ _ (And.intro (fun a1 => (And.intro (z_b01L rfl) (hT.1 [(24, [0, 1, 2, 3, 4])] 6 (D + 4) 275 _ _ (And.intro (fun a3 => (z_litF a3 rfl).elim) (fun _ => (o1 a1)))))) (fun a2 => (And.intro (fun a4 => (hT.1 [] 6 (D + 3) 186 (14, [(0, zi f), (1, zi 0), (2, zi 99)], [], (zu m 74 12 0)) _ (And.intro (z_b01L rfl) (hT.1 [(24, [0, 1, 2, 3, 4])] 6 (D + 4) 275 _ _ (And.intro (fun a6 => (z_litF a6 rfl).elim) (fun _ => (o2 a2 a4))))))) (fun a5 => (hT.1 [] 6 (D + 3) 186 (10, [(0, zi f), (1, zi 0), (2, zi 99)], [], (zu m 74 12 0)) _ (And.intro (z_b01L rfl) (hT.1 [(24, [0, 1, 2, 3, 4])] 6 (D + 4) 275 _ _ (And.intro (fun _ => (hT.1 [(24, [0, 1, 2, 3, 4])] 6 (D + 4) 275 (22, [(0, zr 74), (1, zi f), (2, zi 0), (3, zi 0)], [zi 0], (zu m 74 12 0)) _ (o3 a2 a5))) (fun a7 => (a7 (z_litT rfl)).elim))))))))))))
theorem zb275_0 (hT : zRules T) {D : Nat} {κ : Option zA → zM → Prop} {m : zM} {f : Int}  (hB : zB m) (h_f : (-2147483648) ≤ f ∧ f ≤ 2147483647) 
    (k1 : f < 0 → zB (zu m 74 12 0) → κ (some (zi (-1))) (zu m 74 12 0))
    (k2 : ¬ f < 0 → 99 < f → zB (zu m 74 12 0) → κ (some (zi (-1))) (zu m 74 12 0))
    (k3 : ¬ f < 0 → ¬ 99 < f → zB (zu m 74 12 0) → T (D + 4) 275 (24, [(0, zr 74), (1, zi f), (2, zi 0), (3, zi 0), (4, zi 0)], [], (zu m 74 12 0)) κ) :
    T (D + 4) 275 (0, [(0, zr 74), (1, zi f)], [], m) κ := by
  have he0 : wr f = f := wr_id (by omega) (by omega)
  have key := @zb275_0r T hT D κ m f
  simp only [he0, Int.toNat_natCast] at key
  exact key
    (fun x0 => k1 x0 (zB_u hB trivial))
    (fun x0 x1 => k2 x0 x1 (zB_u hB trivial))
    (fun x0 x1 => k3 x0 x1 (zB_u hB trivial))
theorem zb275_24r (hT : zRules T) {D : Nat} {κ : Option zA → zM → Prop} {m : zM} {f : Int} {s : Int} {o : Nat} {i : Nat} {lo : zL} (hlo : z_keep [0, 1, 2, 3, 4] lo = [(0, zr 74), (1, zi f), (2, zi s), (3, zi (o : Int)), (4, zi (i : Int))]) 
    (o1 : ¬ wr (i : Int) < wr (m 74 52) → κ (some (zi (wr s))) (zu (zu (zu m 74 11 0) 81 0 (o : Int)) 74 11 1))
    (o2 : wr (i : Int) < wr (m 74 52) → (0 ≤ wr ((4 * (i : Int)) + 3) ∧ wr ((4 * (i : Int)) + 3) < 48))
    (o3 : wr (i : Int) < wr (m 74 52) → (0 ≤ wr (4 * (i : Int)) ∧ wr (4 * (i : Int)) < 48))
    (o4 : wr (i : Int) < wr (m 74 52) → (0 ≤ wr ((4 * (i : Int)) + 1) ∧ wr ((4 * (i : Int)) + 1) < 48))
    (o5 : wr (i : Int) < wr (m 74 52) → (0 ≤ wr ((4 * (i : Int)) + 2) ∧ wr ((4 * (i : Int)) + 2) < 48))
    (o6 : wr (i : Int) < wr (m 74 52) → T (D + 3) 215 (0, [(0, zr 74), (1, zi (m 99 ((wr (4 * (i : Int))).toNat))), (2, zi (m 99 ((wr ((4 * (i : Int)) + 1)).toNat))), (3, zi (m 99 ((wr ((4 * (i : Int)) + 2)).toNat)))], [], m) (fun r m1 => T (D + 4) 275 (79, [(0, zr 74), (1, zi f), (2, zi s), (3, zi (o : Int)), (4, zi (i : Int))], r.toList ++ [zi (m 99 ((wr ((4 * (i : Int)) + 3)).toNat))], m1) κ)) :
    T (D + 4) 275 (24, lo, [], m) κ :=
  zkeep hT hlo (hT.1 [(24, [0, 1, 2, 3, 4])] 6 (D + 4) 275 _ κ (And.intro (fun a1 => (hT.1 [(24, [0, 1, 2, 3, 4])] 6 (D + 4) 275 (117, [(0, zr 74), (1, zi f), (2, zi s), (3, zi (o : Int)), (4, zi (i : Int))], [zi 0, zr 74], m) _ (And.intro trivial (hT.1 [] 6 (D + 3) 189 _ _ (And.intro (And.intro (z_ixL rfl) trivial) (hT.1 [] 6 (D + 3) 189 (10, [(0, zr 74), (1, zi (o : Int))], [], (zu (zu m 74 11 0) 81 0 (o : Int))) _ (And.intro trivial (hT.1 [] 6 (D + 3) 189 (20, [(0, zr 74), (1, zi (o : Int))], [], (zu (zu (zu m 74 11 0) 81 0 (o : Int)) 74 11 1)) _ (hT.1 [(24, [0, 1, 2, 3, 4])] 6 (D + 4) 275 _ _ (o1 a1)))))))))) (fun a2 => (hT.1 [(24, [0, 1, 2, 3, 4])] 6 (D + 4) 275 (37, [(0, zr 74), (1, zi f), (2, zi s), (3, zi (o : Int)), (4, zi (i : Int))], [zr 99], m) _ (And.intro (o2 (Classical.byContradiction a2)) (hT.1 [(24, [0, 1, 2, 3, 4])] 6 (D + 4) 275 (44, [(0, zr 74), (1, zi f), (2, zi s), (3, zi (o : Int)), (4, zi (i : Int))], [zi (m 99 ((wr ((4 * (i : Int)) + 3)).toNat))], m) _ (hT.1 [(24, [0, 1, 2, 3, 4])] 6 (D + 4) 275 (53, [(0, zr 74), (1, zi f), (2, zi s), (3, zi (o : Int)), (4, zi (i : Int))], [zi (4 * (i : Int)), zr 99, zr 74, zi (m 99 ((wr ((4 * (i : Int)) + 3)).toNat))], m) _ (And.intro (o3 (Classical.byContradiction a2)) (hT.1 [(24, [0, 1, 2, 3, 4])] 6 (D + 4) 275 (62, [(0, zr 74), (1, zi f), (2, zi s), (3, zi (o : Int)), (4, zi (i : Int))], [zi (4 * (i : Int)), zr 99, zi (m 99 ((wr (4 * (i : Int))).toNat)), zr 74, zi (m 99 ((wr ((4 * (i : Int)) + 3)).toNat))], m) _ (And.intro (o4 (Classical.byContradiction a2)) (hT.1 [(24, [0, 1, 2, 3, 4])] 6 (D + 4) 275 (70, [(0, zr 74), (1, zi f), (2, zi s), (3, zi (o : Int)), (4, zi (i : Int))], [zi 4, zr 99, zi (m 99 ((wr ((4 * (i : Int)) + 1)).toNat)), zi (m 99 ((wr (4 * (i : Int))).toNat)), zr 74, zi (m 99 ((wr ((4 * (i : Int)) + 3)).toNat))], m) _ (And.intro (o5 (Classical.byContradiction a2)) (o6 (Classical.byContradiction a2))))))))))))))
theorem zb275_24 (hT : zRules T) {D : Nat} {κ : Option zA → zM → Prop} {m : zM} {f : Int} {s : Int} {o : Nat} {i : Nat} {lo : zL} (hlo : z_keep [0, 1, 2, 3, 4] lo = [(0, zr 74), (1, zi f), (2, zi s), (3, zi (o : Int)), (4, zi (i : Int))])  (hB : zB m) (h_f : 0 ≤ f ∧ f ≤ 99) (h_s : 0 ≤ s ∧ s ≤ 118800) (h_o : o ≤ 4095) (h_i : i ≤ 12) 
    (k1 : ¬ (i : Int) < (m 74 52) → zB (zu (zu (zu m 74 11 0) 81 0 (o : Int)) 74 11 1) → κ (some (zi s)) (zu (zu (zu m 74 11 0) 81 0 (o : Int)) 74 11 1))
    (k2 : (i : Int) < (m 74 52) → T (D + 3) 215 (0, [(0, zr 74), (1, zi (m 99 (4 * i))), (2, zi (m 99 (4 * i + 1))), (3, zi (m 99 (4 * i + 2)))], [], m) (fun r m1 => T (D + 4) 275 (79, [(0, zr 74), (1, zi f), (2, zi s), (3, zi (o : Int)), (4, zi (i : Int))], r.toList ++ [zi (m 99 (4 * i + 3))], m1) κ)) :
    T (D + 4) 275 (24, lo, [], m) κ := by
  have hb4 : 0 ≤ (m 74 52) ∧ (m 74 52) ≤ 12 := hB 74 52
  have hb5 : 0 ≤ (m 99 (4 * i + 3)) ∧ (m 99 (4 * i + 3)) ≤ 9999 := hB 99 (4 * i + 3)
  have hb6 : 0 ≤ (m 99 (4 * i)) ∧ (m 99 (4 * i)) ≤ 9999 := hB 99 (4 * i)
  have hb7 : 0 ≤ (m 99 (4 * i + 1)) ∧ (m 99 (4 * i + 1)) ≤ 9999 := hB 99 (4 * i + 1)
  have hb8 : 0 ≤ (m 99 (4 * i + 2)) ∧ (m 99 (4 * i + 2)) ≤ 9999 := hB 99 (4 * i + 2)
  have he0 : wr (i : Int) = (i : Int) := wr_id (by omega) (by omega)
  have he1 : wr (m 74 52) = (m 74 52) := wr_id (by omega) (by omega)
  have he2 : wr ((4 * (i : Int)) + 3) = ((4 * (i : Int)) + 3) := wr_id (by omega) (by omega)
  have he3 : ((4 * (i : Int)) + 3).toNat = 4 * i + 3 := by omega
  have he4 : wr (4 * (i : Int)) = (4 * (i : Int)) := wr_id (by omega) (by omega)
  have he5 : (4 * (i : Int)).toNat = 4 * i := by omega
  have he6 : wr ((4 * (i : Int)) + 1) = ((4 * (i : Int)) + 1) := wr_id (by omega) (by omega)
  have he7 : ((4 * (i : Int)) + 1).toNat = 4 * i + 1 := by omega
  have he8 : wr ((4 * (i : Int)) + 2) = ((4 * (i : Int)) + 2) := wr_id (by omega) (by omega)
  have he9 : ((4 * (i : Int)) + 2).toNat = 4 * i + 2 := by omega
  have he10 : wr s = s := wr_id (by omega) (by omega)
  have key := @zb275_24r T hT D κ m f s o i lo hlo
  simp only [he0, he1, he2, he3, he4, he5, he6, he7, he8, he9, he10, Int.toNat_natCast] at key
  exact key
    (fun x0 => k1 x0 (zB_u (zB_u (zB_u hB (show 0 ≤ 0 ∧ 0 ≤ 32 from ⟨by omega, by omega⟩)) trivial) (show 0 ≤ 1 ∧ 1 ≤ 32 from ⟨by omega, by omega⟩)))
    (fun x0 => by refine ⟨?_, ?_⟩ <;> omega)
    (fun x0 => by refine ⟨?_, ?_⟩ <;> omega)
    (fun x0 => by refine ⟨?_, ?_⟩ <;> omega)
    (fun x0 => by refine ⟨?_, ?_⟩ <;> omega)
    k2
theorem zb275_79r (hT : zRules T) {D : Nat} {κ : Option zA → zM → Prop} {m : zM} {f : Int} {s : Int} {o : Nat} {i : Nat} {v : Int} {x : Int} {lo : zL} (hlo : z_keep [0, 1, 2, 3, 4] lo = [(0, zr 74), (1, zi f), (2, zi s), (3, zi (o : Int)), (4, zi (i : Int))]) 
    (o1 : ¬ wr (x - v) < 0 → ¬ wr (wr (x - v)) = 0 → T (D + 4) 275 (24, [(0, zr 74), (1, zi f), (2, zi (s + ((f * wr (x - v)) + f))), (3, zi (z_or (o : Int) (z_shl 1 (i : Int)))), (4, zi ((i : Int) + 1))], [], m) κ)
    (o2 : ¬ wr (x - v) < 0 → wr (wr (x - v)) = 0 → T (D + 4) 275 (24, [(0, zr 74), (1, zi f), (2, zi s), (3, zi (o : Int)), (4, zi ((i : Int) + 1))], [], m) κ)
    (o3 : wr (x - v) < 0 → ¬ wr (wr (-(x - v))) = 0 → T (D + 4) 275 (24, [(0, zr 74), (1, zi f), (2, zi (s + ((f * wr (-(x - v))) + f))), (3, zi (z_or (o : Int) (z_shl 1 (i : Int)))), (4, zi ((i : Int) + 1))], [], m) κ)
    (o4 : wr (x - v) < 0 → wr (wr (-(x - v))) = 0 → False) :
    T (D + 4) 275 (79, lo, [zi v, zi x], m) κ :=
  zkeep hT hlo (hT.1 [(24, [0, 1, 2, 3, 4])] 6 (D + 4) 275 _ κ (hT.1 [] 6 (D + 3) 297 _ _ (And.intro (fun a1 => (hT.1 [(24, [0, 1, 2, 3, 4])] 6 (D + 4) 275 _ _ (And.intro (fun a3 => (hT.1 [(24, [0, 1, 2, 3, 4])] 6 (D + 4) 275 (97, [(0, zr 74), (1, zi f), (2, zi s), (3, zi (o : Int)), (4, zi (i : Int)), (5, zi (wr (x - v)))], [zi (wr (x - v)), zi f, zi s], m) _ (hT.1 [(24, [0, 1, 2, 3, 4])] 6 (D + 4) 275 (103, [(0, zr 74), (1, zi f), (2, zi (s + ((f * wr (x - v)) + f))), (3, zi (o : Int)), (4, zi (i : Int)), (5, zi (wr (x - v)))], [zi (o : Int)], m) _ (hT.1 [(24, [0, 1, 2, 3, 4])] 6 (D + 4) 275 (112, [(0, zr 74), (1, zi f), (2, zi (s + ((f * wr (x - v)) + f))), (3, zi (z_or (o : Int) (z_shl 1 (i : Int)))), (4, zi ((i : Int) + 1)), (5, zi (wr (x - v)))], [], m) _ (o1 a1 a3))))) (fun a4 => (o2 a1 (Classical.byContradiction a4)))))) (fun a2 => (hT.1 [(24, [0, 1, 2, 3, 4])] 6 (D + 4) 275 _ _ (And.intro (fun a5 => (hT.1 [(24, [0, 1, 2, 3, 4])] 6 (D + 4) 275 (97, [(0, zr 74), (1, zi f), (2, zi s), (3, zi (o : Int)), (4, zi (i : Int)), (5, zi (wr (-(x - v))))], [zi (wr (-(x - v))), zi f, zi s], m) _ (hT.1 [(24, [0, 1, 2, 3, 4])] 6 (D + 4) 275 (103, [(0, zr 74), (1, zi f), (2, zi (s + ((f * wr (-(x - v))) + f))), (3, zi (o : Int)), (4, zi (i : Int)), (5, zi (wr (-(x - v))))], [zi (o : Int)], m) _ (hT.1 [(24, [0, 1, 2, 3, 4])] 6 (D + 4) 275 (112, [(0, zr 74), (1, zi f), (2, zi (s + ((f * wr (-(x - v))) + f))), (3, zi (z_or (o : Int) (z_shl 1 (i : Int)))), (4, zi ((i : Int) + 1)), (5, zi (wr (-(x - v))))], [], m) _ (o3 (Classical.byContradiction a2) a5))))) (fun a6 => (o4 (Classical.byContradiction a2) (Classical.byContradiction a6)).elim)))))))
theorem zb275_79 (hT : zRules T) {D : Nat} {κ : Option zA → zM → Prop} {m : zM} {f : Int} {s : Int} {o : Nat} {i : Nat} {v : Int} {x : Int} {lo : zL} (hlo : z_keep [0, 1, 2, 3, 4] lo = [(0, zr 74), (1, zi f), (2, zi s), (3, zi (o : Int)), (4, zi (i : Int))])  (hB : zB m) (h_f : 0 ≤ f ∧ f ≤ 99) (h_s : 0 ≤ s ∧ s ≤ 118800) (h_o : o ≤ 4095) (h_i : i ≤ 11) (h_v : 0 ≤ v ∧ v ≤ 99) (h_x : 0 ≤ x ∧ x ≤ 99) 
    (k1 : ¬ (x - v) < 0 → ¬ (x - v) = 0 → T (D + 4) 275 (24, [(0, zr 74), (1, zi f), (2, zi (s + ((f * (x - v)) + f))), (3, zi (z_or (o : Int) (z_shl 1 (i : Int)))), (4, zi ((i : Int) + 1))], [], m) κ)
    (k2 : ¬ (x - v) < 0 → (x - v) = 0 → T (D + 4) 275 (24, [(0, zr 74), (1, zi f), (2, zi s), (3, zi (o : Int)), (4, zi ((i : Int) + 1))], [], m) κ)
    (k3 : (x - v) < 0 → T (D + 4) 275 (24, [(0, zr 74), (1, zi f), (2, zi (s + ((f * (-(x - v))) + f))), (3, zi (z_or (o : Int) (z_shl 1 (i : Int)))), (4, zi ((i : Int) + 1))], [], m) κ) :
    T (D + 4) 275 (79, lo, [zi v, zi x], m) κ := by
  have hb6 : (-2147483648) ≤ (z_shl 1 (i : Int)) ∧ (z_shl 1 (i : Int)) ≤ 2147483647 := z_shlB 1 (i : Int)
  have hb7 : (-2147483648) ≤ (z_or (o : Int) (z_shl 1 (i : Int))) ∧ (z_or (o : Int) (z_shl 1 (i : Int))) ≤ 2147483647 := z_orB (o : Int) (z_shl 1 (i : Int))
  have he0 : wr (x - v) = (x - v) := wr_id (by omega) (by omega)
  have he1 : wr (-(x - v)) = (-(x - v)) := wr_id (by omega) (by omega)
  have key := @zb275_79r T hT D κ m f s o i v x lo hlo
  simp only [he0, he1, Int.toNat_natCast] at key
  exact key
    k1
    k2
    (fun x0 x1 => k3 x0)
    (fun x0 x1 => by omega)
theorem zb151_0r (hT : zRules T) {D : Nat} {κ : Option zA → zM → Prop} {m : zM} 
    (o1 : T (D + 8) 151 (5, [(0, zr 1), (1, zi 0), (2, zi (-13))], [], m) κ) :
    T (D + 8) 151 (0, [(0, zr 1)], [], m) κ :=
  hT.1 [(5, [0, 1, 2])] 6 (D + 8) 151 _ κ (o1)
theorem zb151_0 (hT : zRules T) {D : Nat} {κ : Option zA → zM → Prop} {m : zM}  (hB : zB m) 
    (k1 : T (D + 8) 151 (5, [(0, zr 1), (1, zi 0), (2, zi (-13))], [], m) κ) :
    T (D + 8) 151 (0, [(0, zr 1)], [], m) κ := by
  exact zb151_0r hT
    k1
theorem zb151_5r (hT : zRules T) {D : Nat} {κ : Option zA → zM → Prop} {m : zM} {b : Nat} {l : Int} {lo : zL} (hlo : z_keep [0, 1, 2] lo = [(0, zr 1), (1, zi (b : Int)), (2, zi l)]) 
    (o1 : 13 < wr l → κ (some (zi (wr (b : Int)))) m)
    (o2 : ¬ 13 < wr l → T (D + 7) 183 (0, [(0, zr 1), (1, zi l)], [], m) (fun r m1 => T (D + 8) 151 (16, [(0, zr 1), (1, zi (b : Int)), (2, zi l)], r.toList ++ [], m1) κ)) :
    T (D + 8) 151 (5, lo, [], m) κ :=
  zkeep hT hlo (hT.1 [(5, [0, 1, 2])] 6 (D + 8) 151 _ κ (And.intro (fun a1 => (o1 a1)) (fun a2 => (o2 a2))))
theorem zb151_5 (hT : zRules T) {D : Nat} {κ : Option zA → zM → Prop} {m : zM} {b : Nat} {l : Int} {lo : zL} (hlo : z_keep [0, 1, 2] lo = [(0, zr 1), (1, zi (b : Int)), (2, zi l)])  (hB : zB m) (h_b : b ≤ 134217727) (h_l : (-13) ≤ l ∧ l ≤ 14) 
    (k1 : 13 < l → κ (some (zi (b : Int))) m)
    (k2 : ¬ 13 < l → T (D + 7) 183 (0, [(0, zr 1), (1, zi l)], [], m) (fun r m1 => T (D + 8) 151 (16, [(0, zr 1), (1, zi (b : Int)), (2, zi l)], r.toList ++ [], m1) κ)) :
    T (D + 8) 151 (5, lo, [], m) κ := by
  have he0 : wr l = l := wr_id (by omega) (by omega)
  have he1 : wr (b : Int) = (b : Int) := wr_id (by omega) (by omega)
  have key := @zb151_5r T hT D κ m b l lo hlo
  simp only [he0, he1, Int.toNat_natCast] at key
  exact key
    k1
    k2
theorem zb151_16r (hT : zRules T) {D : Nat} {κ : Option zA → zM → Prop} {m : zM} {b : Nat} {l : Int} {v : Int} {lo : zL} (hlo : z_keep [0, 1, 2] lo = [(0, zr 1), (1, zi (b : Int)), (2, zi l)]) 
    (o1 : wr v = 0 → T (D + 8) 151 (5, [(0, zr 1), (1, zi (b : Int)), (2, zi (l + 1))], [], m) κ)
    (o2 : ¬ wr v = 0 → T (D + 8) 151 (5, [(0, zr 1), (1, zi (z_or (b : Int) (z_shl 1 (l + 13)))), (2, zi (l + 1))], [], m) κ) :
    T (D + 8) 151 (16, lo, [zi v], m) κ :=
  zkeep hT hlo (hT.1 [(5, [0, 1, 2])] 6 (D + 8) 151 _ κ (And.intro (fun a1 => (o1 a1)) (fun a2 => (hT.1 [(5, [0, 1, 2])] 6 (D + 8) 151 (25, [(0, zr 1), (1, zi (b : Int)), (2, zi l)], [zi (l + 13), zi 1, zi (b : Int)], m) _ (o2 a2)))))
theorem zb151_16 (hT : zRules T) {D : Nat} {κ : Option zA → zM → Prop} {m : zM} {b : Nat} {l : Int} {v : Int} {lo : zL} (hlo : z_keep [0, 1, 2] lo = [(0, zr 1), (1, zi (b : Int)), (2, zi l)])  (hB : zB m) (h_b : b ≤ 134217727) (h_l : (-13) ≤ l ∧ l ≤ 13) (h_v : 0 ≤ v ∧ v ≤ 1) 
    (k1 : v = 0 → T (D + 8) 151 (5, [(0, zr 1), (1, zi (b : Int)), (2, zi (l + 1))], [], m) κ)
    (k2 : ¬ v = 0 → T (D + 8) 151 (5, [(0, zr 1), (1, zi (z_or (b : Int) (z_shl 1 (l + 13)))), (2, zi (l + 1))], [], m) κ) :
    T (D + 8) 151 (16, lo, [zi v], m) κ := by
  have hb3 : (-2147483648) ≤ (z_shl 1 (l + 13)) ∧ (z_shl 1 (l + 13)) ≤ 2147483647 := z_shlB 1 (l + 13)
  have hb4 : (-2147483648) ≤ (z_or (b : Int) (z_shl 1 (l + 13))) ∧ (z_or (b : Int) (z_shl 1 (l + 13))) ≤ 2147483647 := z_orB (b : Int) (z_shl 1 (l + 13))
  have he0 : wr v = v := wr_id (by omega) (by omega)
  have key := @zb151_16r T hT D κ m b l v lo hlo
  simp only [he0, Int.toNat_natCast] at key
  exact key
    k1
    k2
theorem zb183_0r (hT : zRules T) {D : Nat} {κ : Option zA → zM → Prop} {m : zM} {l : Int} 
    (o1 : T (D + 7) 183 (2, [(0, zr 1), (1, zi l), (2, zi 0)], [], m) κ) :
    T (D + 7) 183 (0, [(0, zr 1), (1, zi l)], [], m) κ :=
  hT.1 [(2, [0, 1, 2])] 6 (D + 7) 183 _ κ (o1)
theorem zb183_0 (hT : zRules T) {D : Nat} {κ : Option zA → zM → Prop} {m : zM} {l : Int}  (hB : zB m) (h_l : (-13) ≤ l ∧ l ≤ 13) 
    (k1 : T (D + 7) 183 (2, [(0, zr 1), (1, zi l), (2, zi 0)], [], m) κ) :
    T (D + 7) 183 (0, [(0, zr 1), (1, zi l)], [], m) κ := by
  exact zb183_0r hT
    k1
theorem zb183_2r (hT : zRules T) {D : Nat} {κ : Option zA → zM → Prop} {m : zM} {l : Int} {i : Nat} {lo : zL} (hlo : z_keep [0, 1, 2] lo = [(0, zr 1), (1, zi l), (2, zi (i : Int))]) 
    (o1 : ¬ wr (i : Int) < wr (m 59 4) → κ (some (zi 1)) m)
    (o2 : wr (i : Int) < wr (m 59 4) → (0 ≤ wr (i : Int) ∧ wr (i : Int) < 12))
    (o3 : wr (i : Int) < wr (m 59 4) → wr ((m 62 ((wr (i : Int)).toNat)) + l) < 0 → κ (some (zi 0)) m)
    (o4 : wr (i : Int) < wr (m 59 4) → ¬ wr ((m 62 ((wr (i : Int)).toNat)) + l) < 0 → T (D + 6) 182 (0, [(0, zr 1), (1, zi (i : Int)), (2, zi l)], [], m) (fun r m1 => T (D + 7) 183 (33, [(0, zr 1), (1, zi l), (2, zi (i : Int))], r.toList ++ [], m1) κ)) :
    T (D + 7) 183 (2, lo, [], m) κ :=
  zkeep hT hlo (hT.1 [(2, [0, 1, 2])] 6 (D + 7) 183 _ κ (And.intro (fun a1 => (hT.1 [(2, [0, 1, 2])] 6 (D + 7) 183 (54, [(0, zr 1), (1, zi l), (2, zi (i : Int))], [zi 1], m) _ (And.intro (z_b01L rfl) (o1 a1)))) (fun a2 => (hT.1 [(2, [0, 1, 2])] 6 (D + 7) 183 (14, [(0, zr 1), (1, zi l), (2, zi (i : Int))], [zr 1], m) _ (And.intro (o2 (Classical.byContradiction a2)) (hT.1 [(2, [0, 1, 2])] 6 (D + 7) 183 (24, [(0, zr 1), (1, zi l), (2, zi (i : Int))], [zi ((m 62 ((wr (i : Int)).toNat)) + l)], m) _ (And.intro (fun a3 => (And.intro (z_b01L rfl) (o3 (Classical.byContradiction a2) a3))) (fun a4 => (o4 (Classical.byContradiction a2) a4)))))))))
theorem zb183_2 (hT : zRules T) {D : Nat} {κ : Option zA → zM → Prop} {m : zM} {l : Int} {i : Nat} {lo : zL} (hlo : z_keep [0, 1, 2] lo = [(0, zr 1), (1, zi l), (2, zi (i : Int))])  (hB : zB m) (h_l : (-13) ≤ l ∧ l ≤ 13) (h_i : i ≤ 12) 
    (k1 : ¬ (i : Int) < (m 59 4) → κ (some (zi 1)) m)
    (k2 : (i : Int) < (m 59 4) → ((m 62 i) + l) < 0 → κ (some (zi 0)) m)
    (k3 : (i : Int) < (m 59 4) → ¬ ((m 62 i) + l) < 0 → T (D + 6) 182 (0, [(0, zr 1), (1, zi (i : Int)), (2, zi l)], [], m) (fun r m1 => T (D + 7) 183 (33, [(0, zr 1), (1, zi l), (2, zi (i : Int))], r.toList ++ [], m1) κ)) :
    T (D + 7) 183 (2, lo, [], m) κ := by
  have hb2 : 0 ≤ (m 59 4) ∧ (m 59 4) ≤ 12 := hB 59 4
  have hb3 : 0 ≤ (m 62 i) ∧ (m 62 i) ≤ 9999 := hB 62 i
  have he0 : wr (i : Int) = (i : Int) := wr_id (by omega) (by omega)
  have he1 : wr (m 59 4) = (m 59 4) := wr_id (by omega) (by omega)
  have he2 : (i : Int).toNat = i := by omega
  have he3 : wr ((m 62 i) + l) = ((m 62 i) + l) := wr_id (by omega) (by omega)
  have key := @zb183_2r T hT D κ m l i lo hlo
  simp only [he0, he1, he2, he3, Int.toNat_natCast] at key
  exact key
    k1
    (fun x0 => by refine ⟨?_, ?_⟩ <;> omega)
    k2
    k3
theorem zb183_33r (hT : zRules T) {D : Nat} {κ : Option zA → zM → Prop} {m : zM} {l : Int} {i : Nat} {v : Int} {lo : zL} (hlo : z_keep [0, 1, 2] lo = [(0, zr 1), (1, zi l), (2, zi (i : Int))]) 
    (o1 : (0 ≤ wr (i : Int) ∧ wr (i : Int) < 12))
    (o2 : wr v = wr (m 63 ((wr (i : Int)).toNat)) → T (D + 7) 183 (2, [(0, zr 1), (1, zi l), (2, zi ((i : Int) + 1))], [], m) κ)
    (o3 : ¬ wr v = wr (m 63 ((wr (i : Int)).toNat)) → κ (some (zi 0)) m) :
    T (D + 7) 183 (33, lo, [zi v], m) κ :=
  zkeep hT hlo (hT.1 [(2, [0, 1, 2])] 6 (D + 7) 183 _ κ (And.intro (o1) (And.intro (fun a1 => (hT.1 [(2, [0, 1, 2])] 6 (D + 7) 183 (47, [(0, zr 1), (1, zi l), (2, zi (i : Int))], [], m) _ (o2 a1))) (fun a2 => (hT.1 [(2, [0, 1, 2])] 6 (D + 7) 183 (45, [(0, zr 1), (1, zi l), (2, zi (i : Int))], [], m) _ (And.intro (z_b01L rfl) (o3 a2)))))))
theorem zb183_33 (hT : zRules T) {D : Nat} {κ : Option zA → zM → Prop} {m : zM} {l : Int} {i : Nat} {v : Int} {lo : zL} (hlo : z_keep [0, 1, 2] lo = [(0, zr 1), (1, zi l), (2, zi (i : Int))])  (hB : zB m) (h_l : (-13) ≤ l ∧ l ≤ 13) (h_i : i ≤ 11) (h_v : 0 ≤ v ∧ v ≤ 99) 
    (k1 : v = (m 63 i) → T (D + 7) 183 (2, [(0, zr 1), (1, zi l), (2, zi ((i : Int) + 1))], [], m) κ)
    (k2 : ¬ v = (m 63 i) → κ (some (zi 0)) m) :
    T (D + 7) 183 (33, lo, [zi v], m) κ := by
  have hb3 : 0 ≤ (m 63 i) ∧ (m 63 i) ≤ 99 := hB 63 i
  have he0 : wr (i : Int) = (i : Int) := wr_id (by omega) (by omega)
  have he1 : (i : Int).toNat = i := by omega
  have he2 : wr v = v := wr_id (by omega) (by omega)
  have he3 : wr (m 63 i) = (m 63 i) := wr_id (by omega) (by omega)
  have key := @zb183_33r T hT D κ m l i v lo hlo
  simp only [he0, he1, he2, he3, Int.toNat_natCast] at key
  exact key
    (by refine ⟨?_, ?_⟩ <;> omega)
    k1
    k2
theorem zb276_0r (hT : zRules T) {D : Nat} {κ : Option zA → zM → Prop} {m : zM} 
    (o1 : T (D + 4) 276 (10, [(0, zr 74), (1, zi 0), (2, zi (-13))], [], (zu m 74 12 0)) κ) :
    T (D + 4) 276 (0, [(0, zr 74)], [], m) κ :=
  hT.1 [(10, [0, 1, 2]), (21, [0, 1, 2, 3, 4])] 6 (D + 4) 276 _ κ (And.intro trivial (hT.1 [(10, [0, 1, 2]), (21, [0, 1, 2, 3, 4])] 6 (D + 4) 276 (9, [(0, zr 74), (1, zi 0)], [zi (-13)], (zu m 74 12 0)) _ (o1)))
theorem zb276_0 (hT : zRules T) {D : Nat} {κ : Option zA → zM → Prop} {m : zM}  (hB : zB m) 
    (k1 : zB (zu m 74 12 0) → T (D + 4) 276 (10, [(0, zr 74), (1, zi 0), (2, zi (-13))], [], (zu m 74 12 0)) κ) :
    T (D + 4) 276 (0, [(0, zr 74)], [], m) κ := by
  exact zb276_0r hT
    (k1  (zB_u hB trivial))
theorem zb276_10r (hT : zRules T) {D : Nat} {κ : Option zA → zM → Prop} {m : zM} {b : Nat} {l : Int} {lo : zL} (hlo : z_keep [0, 1, 2] lo = [(0, zr 74), (1, zi (b : Int)), (2, zi l)]) 
    (o1 : 13 < wr l → κ (some (zi (wr (b : Int)))) m)
    (o2 : ¬ 13 < wr l → T (D + 4) 276 (21, [(0, zr 74), (1, zi (b : Int)), (2, zi l), (3, zi 1), (4, zi 0)], [], m) κ) :
    T (D + 4) 276 (10, lo, [], m) κ :=
  zkeep hT hlo (hT.1 [(10, [0, 1, 2]), (21, [0, 1, 2, 3, 4])] 6 (D + 4) 276 _ κ (And.intro (fun a1 => (o1 a1)) (fun a2 => (hT.1 [(10, [0, 1, 2]), (21, [0, 1, 2, 3, 4])] 6 (D + 4) 276 (19, [(0, zr 74), (1, zi (b : Int)), (2, zi l), (3, zi 1)], [zi 0], m) _ (o2 a2)))))
theorem zb276_10 (hT : zRules T) {D : Nat} {κ : Option zA → zM → Prop} {m : zM} {b : Nat} {l : Int} {lo : zL} (hlo : z_keep [0, 1, 2] lo = [(0, zr 74), (1, zi (b : Int)), (2, zi l)])  (hB : zB m) (h_b : b ≤ 134217727) (h_l : (-13) ≤ l ∧ l ≤ 14) 
    (k1 : 13 < l → κ (some (zi (b : Int))) m)
    (k2 : ¬ 13 < l → T (D + 4) 276 (21, [(0, zr 74), (1, zi (b : Int)), (2, zi l), (3, zi 1), (4, zi 0)], [], m) κ) :
    T (D + 4) 276 (10, lo, [], m) κ := by
  have he0 : wr l = l := wr_id (by omega) (by omega)
  have he1 : wr (b : Int) = (b : Int) := wr_id (by omega) (by omega)
  have key := @zb276_10r T hT D κ m b l lo hlo
  simp only [he0, he1, Int.toNat_natCast] at key
  exact key
    k1
    k2
theorem zb276_21r (hT : zRules T) {D : Nat} {κ : Option zA → zM → Prop} {m : zM} {b : Nat} {l : Int} {s : Int} {i : Nat} {lo : zL} (hlo : z_keep [0, 1, 2, 3, 4] lo = [(0, zr 74), (1, zi (b : Int)), (2, zi l), (3, zi s), (4, zi (i : Int))]) 
    (o1 : ¬ wr (i : Int) < wr (m 74 52) → wr s = 0 → T (D + 4) 276 (10, [(0, zr 74), (1, zi (z_or (b : Int) 0)), (2, zi (l + 1))], [], m) κ)
    (o2 : ¬ wr (i : Int) < wr (m 74 52) → ¬ wr s = 0 → T (D + 4) 276 (10, [(0, zr 74), (1, zi (z_or (b : Int) (z_shl 1 (13 + l)))), (2, zi (l + 1))], [], m) κ)
    (o3 : wr (i : Int) < wr (m 74 52) → wr s = 0 → wr s = 0 → T (D + 4) 276 (10, [(0, zr 74), (1, zi (z_or (b : Int) 0)), (2, zi (l + 1))], [], m) κ)
    (o4 : wr (i : Int) < wr (m 74 52) → wr s = 0 → ¬ wr s = 0 → False)
    (o5 : wr (i : Int) < wr (m 74 52) → ¬ wr s = 0 → (0 ≤ wr ((4 * (i : Int)) + 2) ∧ wr ((4 * (i : Int)) + 2) < 48))
    (o6 : wr (i : Int) < wr (m 74 52) → ¬ wr s = 0 → wr ((m 99 ((wr ((4 * (i : Int)) + 2)).toNat)) + l) < 0 → T (D + 4) 276 (21, [(0, zr 74), (1, zi (b : Int)), (2, zi l), (3, zi 0), (4, zi ((i : Int) + 1))], [], m) κ)
    (o7 : wr (i : Int) < wr (m 74 52) → ¬ wr s = 0 → ¬ wr ((m 99 ((wr ((4 * (i : Int)) + 2)).toNat)) + l) < 0 → (0 ≤ wr (4 * (i : Int)) ∧ wr (4 * (i : Int)) < 48))
    (o8 : wr (i : Int) < wr (m 74 52) → ¬ wr s = 0 → ¬ wr ((m 99 ((wr ((4 * (i : Int)) + 2)).toNat)) + l) < 0 → (0 ≤ wr ((4 * (i : Int)) + 1) ∧ wr ((4 * (i : Int)) + 1) < 48))
    (o9 : wr (i : Int) < wr (m 74 52) → ¬ wr s = 0 → ¬ wr ((m 99 ((wr ((4 * (i : Int)) + 2)).toNat)) + l) < 0 → T (D + 3) 215 (0, [(0, zr 74), (1, zi (m 99 ((wr (4 * (i : Int))).toNat))), (2, zi (m 99 ((wr ((4 * (i : Int)) + 1)).toNat))), (3, zi ((m 99 ((wr ((4 * (i : Int)) + 2)).toNat)) + l))], [], m) (fun r m1 => T (D + 4) 276 (80, [(0, zr 74), (1, zi (b : Int)), (2, zi l), (3, zi s), (4, zi (i : Int)), (5, zi ((m 99 ((wr ((4 * (i : Int)) + 2)).toNat)) + l))], r.toList ++ [], m1) κ)) :
    T (D + 4) 276 (21, lo, [], m) κ :=
  zkeep hT hlo (hT.1 [(10, [0, 1, 2]), (21, [0, 1, 2, 3, 4])] 6 (D + 4) 276 _ κ (And.intro (fun a1 => (hT.1 [(10, [0, 1, 2]), (21, [0, 1, 2, 3, 4])] 6 (D + 4) 276 (108, [(0, zr 74), (1, zi (b : Int)), (2, zi l), (3, zi s), (4, zi (i : Int))], [zi s, zi (b : Int)], m) _ (And.intro (fun a3 => (o1 a1 a3)) (fun a4 => (hT.1 [(10, [0, 1, 2]), (21, [0, 1, 2, 3, 4])] 6 (D + 4) 276 (117, [(0, zr 74), (1, zi (b : Int)), (2, zi l), (3, zi s), (4, zi (i : Int))], [zi (z_shl 1 (13 + l)), zi (b : Int)], m) _ (o2 a1 a4)))))) (fun a2 => (And.intro (fun a5 => (hT.1 [(10, [0, 1, 2]), (21, [0, 1, 2, 3, 4])] 6 (D + 4) 276 (106, [(0, zr 74), (1, zi (b : Int)), (2, zi l), (3, zi s), (4, zi (i : Int))], [], m) _ (And.intro (fun a7 => (hT.1 [(10, [0, 1, 2]), (21, [0, 1, 2, 3, 4])] 6 (D + 4) 276 (123, [(0, zr 74), (1, zi (z_or (b : Int) 0)), (2, zi l), (3, zi s), (4, zi (i : Int))], [], m) _ (o3 (Classical.byContradiction a2) a5 a7))) (fun a8 => (o4 (Classical.byContradiction a2) a5 a8).elim)))) (fun a6 => (hT.1 [(10, [0, 1, 2]), (21, [0, 1, 2, 3, 4])] 6 (D + 4) 276 (34, [(0, zr 74), (1, zi (b : Int)), (2, zi l), (3, zi s), (4, zi (i : Int))], [], m) _ (hT.1 [(10, [0, 1, 2]), (21, [0, 1, 2, 3, 4])] 6 (D + 4) 276 (43, [(0, zr 74), (1, zi (b : Int)), (2, zi l), (3, zi s), (4, zi (i : Int))], [zi 2, zi (4 * (i : Int)), zr 99], m) _ (And.intro (o5 (Classical.byContradiction a2) a6) (hT.1 [(10, [0, 1, 2]), (21, [0, 1, 2, 3, 4])] 6 (D + 4) 276 (51, [(0, zr 74), (1, zi (b : Int)), (2, zi l), (3, zi s), (4, zi (i : Int)), (5, zi ((m 99 ((wr ((4 * (i : Int)) + 2)).toNat)) + l))], [zi ((m 99 ((wr ((4 * (i : Int)) + 2)).toNat)) + l)], m) _ (And.intro (fun a9 => (o6 (Classical.byContradiction a2) a6 a9)) (fun a10 => (hT.1 [(10, [0, 1, 2]), (21, [0, 1, 2, 3, 4])] 6 (D + 4) 276 (62, [(0, zr 74), (1, zi (b : Int)), (2, zi l), (3, zi s), (4, zi (i : Int)), (5, zi ((m 99 ((wr ((4 * (i : Int)) + 2)).toNat)) + l))], [zi (i : Int), zi 4, zr 99, zr 74], m) _ (And.intro (o7 (Classical.byContradiction a2) a6 a10) (hT.1 [(10, [0, 1, 2]), (21, [0, 1, 2, 3, 4])] 6 (D + 4) 276 (71, [(0, zr 74), (1, zi (b : Int)), (2, zi l), (3, zi s), (4, zi (i : Int)), (5, zi ((m 99 ((wr ((4 * (i : Int)) + 2)).toNat)) + l))], [zi (i : Int), zi 4, zr 99, zi (m 99 ((wr (4 * (i : Int))).toNat)), zr 74], m) _ (And.intro (o8 (Classical.byContradiction a2) a6 a10) (o9 (Classical.byContradiction a2) a6 a10))))))))))))))))
theorem zb276_21 (hT : zRules T) {D : Nat} {κ : Option zA → zM → Prop} {m : zM} {b : Nat} {l : Int} {s : Int} {i : Nat} {lo : zL} (hlo : z_keep [0, 1, 2, 3, 4] lo = [(0, zr 74), (1, zi (b : Int)), (2, zi l), (3, zi s), (4, zi (i : Int))])  (hB : zB m) (h_b : b ≤ 134217727) (h_l : (-13) ≤ l ∧ l ≤ 13) (h_s : 0 ≤ s ∧ s ≤ 1) (h_i : i ≤ 12) 
    (k1 : ¬ (i : Int) < (m 74 52) → s = 0 → T (D + 4) 276 (10, [(0, zr 74), (1, zi (z_or (b : Int) 0)), (2, zi (l + 1))], [], m) κ)
    (k2 : ¬ (i : Int) < (m 74 52) → ¬ s = 0 → T (D + 4) 276 (10, [(0, zr 74), (1, zi (z_or (b : Int) (z_shl 1 (13 + l)))), (2, zi (l + 1))], [], m) κ)
    (k3 : (i : Int) < (m 74 52) → s = 0 → T (D + 4) 276 (10, [(0, zr 74), (1, zi (z_or (b : Int) 0)), (2, zi (l + 1))], [], m) κ)
    (k4 : (i : Int) < (m 74 52) → ¬ s = 0 → ((m 99 (4 * i + 2)) + l) < 0 → T (D + 4) 276 (21, [(0, zr 74), (1, zi (b : Int)), (2, zi l), (3, zi 0), (4, zi ((i : Int) + 1))], [], m) κ)
    (k5 : (i : Int) < (m 74 52) → ¬ s = 0 → ¬ ((m 99 (4 * i + 2)) + l) < 0 → T (D + 3) 215 (0, [(0, zr 74), (1, zi (m 99 (4 * i))), (2, zi (m 99 (4 * i + 1))), (3, zi ((m 99 (4 * i + 2)) + l))], [], m) (fun r m1 => T (D + 4) 276 (80, [(0, zr 74), (1, zi (b : Int)), (2, zi l), (3, zi s), (4, zi (i : Int)), (5, zi ((m 99 (4 * i + 2)) + l))], r.toList ++ [], m1) κ)) :
    T (D + 4) 276 (21, lo, [], m) κ := by
  have hb4 : 0 ≤ (m 74 52) ∧ (m 74 52) ≤ 12 := hB 74 52
  have hb5 : (-2147483648) ≤ (z_or (b : Int) 0) ∧ (z_or (b : Int) 0) ≤ 2147483647 := z_orB (b : Int) 0
  have hb6 : 0 ≤ (m 99 (4 * i + 2)) ∧ (m 99 (4 * i + 2)) ≤ 9999 := hB 99 (4 * i + 2)
  have hb7 : 0 ≤ (m 99 (4 * i)) ∧ (m 99 (4 * i)) ≤ 9999 := hB 99 (4 * i)
  have hb8 : 0 ≤ (m 99 (4 * i + 1)) ∧ (m 99 (4 * i + 1)) ≤ 9999 := hB 99 (4 * i + 1)
  have hb9 : (-2147483648) ≤ (z_shl 1 (13 + l)) ∧ (z_shl 1 (13 + l)) ≤ 2147483647 := z_shlB 1 (13 + l)
  have hb10 : (-2147483648) ≤ (z_or (b : Int) (z_shl 1 (13 + l))) ∧ (z_or (b : Int) (z_shl 1 (13 + l))) ≤ 2147483647 := z_orB (b : Int) (z_shl 1 (13 + l))
  have he0 : wr (i : Int) = (i : Int) := wr_id (by omega) (by omega)
  have he1 : wr (m 74 52) = (m 74 52) := wr_id (by omega) (by omega)
  have he2 : wr s = s := wr_id (by omega) (by omega)
  have he3 : wr ((4 * (i : Int)) + 2) = ((4 * (i : Int)) + 2) := wr_id (by omega) (by omega)
  have he4 : ((4 * (i : Int)) + 2).toNat = 4 * i + 2 := by omega
  have he5 : wr ((m 99 (4 * i + 2)) + l) = ((m 99 (4 * i + 2)) + l) := wr_id (by omega) (by omega)
  have he6 : wr (4 * (i : Int)) = (4 * (i : Int)) := wr_id (by omega) (by omega)
  have he7 : (4 * (i : Int)).toNat = 4 * i := by omega
  have he8 : wr ((4 * (i : Int)) + 1) = ((4 * (i : Int)) + 1) := wr_id (by omega) (by omega)
  have he9 : ((4 * (i : Int)) + 1).toNat = 4 * i + 1 := by omega
  have key := @zb276_21r T hT D κ m b l s i lo hlo
  simp only [he0, he1, he2, he3, he4, he5, he6, he7, he8, he9, Int.toNat_natCast] at key
  exact key
    k1
    k2
    (fun x0 x1 x2 => k3 x0 x1)
    (fun x0 x1 x2 => by omega)
    (fun x0 x1 => by refine ⟨?_, ?_⟩ <;> omega)
    k4
    (fun x0 x1 x2 => by refine ⟨?_, ?_⟩ <;> omega)
    (fun x0 x1 x2 => by refine ⟨?_, ?_⟩ <;> omega)
    k5
theorem zb276_80r (hT : zRules T) {D : Nat} {κ : Option zA → zM → Prop} {m : zM} {b : Nat} {l : Int} {i : Nat} {v : Int} {lo : zL} (hlo : z_keep [0, 1, 2, 4] lo = [(0, zr 74), (1, zi (b : Int)), (2, zi l), (4, zi (i : Int))]) 
    (o1 : (0 ≤ wr ((4 * (i : Int)) + 3) ∧ wr ((4 * (i : Int)) + 3) < 48))
    (o2 : ¬ wr v = wr (m 99 ((wr ((4 * (i : Int)) + 3)).toNat)) → T (D + 4) 276 (21, [(0, zr 74), (1, zi (b : Int)), (2, zi l), (3, zi 0), (4, zi ((i : Int) + 1))], [], m) κ)
    (o3 : wr v = wr (m 99 ((wr ((4 * (i : Int)) + 3)).toNat)) → T (D + 4) 276 (21, [(0, zr 74), (1, zi (b : Int)), (2, zi l), (3, zi 1), (4, zi ((i : Int) + 1))], [], m) κ) :
    T (D + 4) 276 (80, lo, [zi v], m) κ :=
  zkeep hT hlo (hT.1 [(10, [0, 1, 2]), (21, [0, 1, 2, 3, 4])] 6 (D + 4) 276 _ κ (hT.1 [(10, [0, 1, 2]), (21, [0, 1, 2, 3, 4])] 6 (D + 4) 276 (89, [(0, zr 74), (1, zi (b : Int)), (2, zi l), (4, zi (i : Int))], [zi 3, zi (4 * (i : Int)), zr 99, zi v], m) _ (And.intro (o1) (And.intro (fun a1 => (hT.1 [(10, [0, 1, 2]), (21, [0, 1, 2, 3, 4])] 6 (D + 4) 276 (103, [(0, zr 74), (1, zi (b : Int)), (2, zi l), (3, zi 0), (4, zi ((i : Int) + 1))], [], m) _ (o2 a1))) (fun a2 => (hT.1 [(10, [0, 1, 2]), (21, [0, 1, 2, 3, 4])] 6 (D + 4) 276 (100, [(0, zr 74), (1, zi (b : Int)), (2, zi l), (3, zi 1), (4, zi (i : Int))], [], m) _ (o3 (Classical.byContradiction a2))))))))
theorem zb276_80 (hT : zRules T) {D : Nat} {κ : Option zA → zM → Prop} {m : zM} {b : Nat} {l : Int} {i : Nat} {v : Int} {lo : zL} (hlo : z_keep [0, 1, 2, 4] lo = [(0, zr 74), (1, zi (b : Int)), (2, zi l), (4, zi (i : Int))])  (hB : zB m) (h_b : b ≤ 134217727) (h_l : (-13) ≤ l ∧ l ≤ 13) (h_i : i ≤ 11) (h_v : 0 ≤ v ∧ v ≤ 99) 
    (k1 : ¬ v = (m 99 (4 * i + 3)) → T (D + 4) 276 (21, [(0, zr 74), (1, zi (b : Int)), (2, zi l), (3, zi 0), (4, zi ((i : Int) + 1))], [], m) κ)
    (k2 : v = (m 99 (4 * i + 3)) → T (D + 4) 276 (21, [(0, zr 74), (1, zi (b : Int)), (2, zi l), (3, zi 1), (4, zi ((i : Int) + 1))], [], m) κ) :
    T (D + 4) 276 (80, lo, [zi v], m) κ := by
  have hb4 : 0 ≤ (m 99 (4 * i + 3)) ∧ (m 99 (4 * i + 3)) ≤ 9999 := hB 99 (4 * i + 3)
  have he0 : wr ((4 * (i : Int)) + 3) = ((4 * (i : Int)) + 3) := wr_id (by omega) (by omega)
  have he1 : ((4 * (i : Int)) + 3).toNat = 4 * i + 3 := by omega
  have he2 : wr v = v := wr_id (by omega) (by omega)
  have he3 : wr (m 99 (4 * i + 3)) = (m 99 (4 * i + 3)) := wr_id (by omega) (by omega)
  have key := @zb276_80r T hT D κ m b l i v lo hlo
  simp only [he0, he1, he2, he3, Int.toNat_natCast] at key
  exact key
    (by refine ⟨?_, ?_⟩ <;> omega)
    k1
    k2
theorem zb152_0r (hT : zRules T) {D : Nat} {κ : Option zA → zM → Prop} {m : zM} {p : Int} 
    (o1 : wr p < 0 → κ (some (zi (-1))) m)
    (o2 : ¬ wr p < 0 → ¬ wr p < wr (m 17 0) → κ (some (zi (-1))) m)
    (o3 : ¬ wr p < 0 → wr p < wr (m 17 0) → T (D + 6) 152 (23, [(0, zr 1), (1, zi p), (2, zi 0), (3, zi (-1)), (4, zi (-1)), (5, zi 1)], [], m) κ) :
    T (D + 6) 152 (0, [(0, zr 1), (1, zi p)], [], m) κ :=
  hT.1 [(23, [0, 1, 2, 3, 4, 5])] 6 (D + 6) 152 _ κ (hT.1 [] 6 (D + 5) 25 _ _ (And.intro (fun a1 => (And.intro (z_b01L rfl) (hT.1 [(23, [0, 1, 2, 3, 4, 5])] 6 (D + 6) 152 _ _ (And.intro (fun a3 => (z_litF a3 rfl).elim) (fun _ => (o1 a1)))))) (fun a2 => (And.intro (fun a4 => (hT.1 [] 6 (D + 5) 25 (16, [(0, zr 17), (1, zi p)], [], m) _ (And.intro (z_b01L rfl) (hT.1 [(23, [0, 1, 2, 3, 4, 5])] 6 (D + 6) 152 _ _ (And.intro (fun a6 => (z_litF a6 rfl).elim) (fun _ => (o2 a2 a4))))))) (fun a5 => (hT.1 [] 6 (D + 5) 25 (12, [(0, zr 17), (1, zi p)], [], m) _ (And.intro (z_b01L rfl) (hT.1 [(23, [0, 1, 2, 3, 4, 5])] 6 (D + 6) 152 _ _ (And.intro (fun _ => (hT.1 [(23, [0, 1, 2, 3, 4, 5])] 6 (D + 6) 152 (18, [(0, zr 1), (1, zi p), (2, zi 0), (3, zi (-1))], [zi (-1)], m) _ (o3 a2 (Classical.byContradiction a5)))) (fun a7 => (a7 (z_litT rfl)).elim))))))))))
theorem zb152_0 (hT : zRules T) {D : Nat} {κ : Option zA → zM → Prop} {m : zM} {p : Int}  (hB : zB m) (h_p : (-2147483648) ≤ p ∧ p ≤ 2147483647) 
    (k1 : p < 0 → κ (some (zi (-1))) m)
    (k2 : ¬ p < 0 → ¬ p < (m 17 0) → κ (some (zi (-1))) m)
    (k3 : ¬ p < 0 → p < (m 17 0) → T (D + 6) 152 (23, [(0, zr 1), (1, zi p), (2, zi 0), (3, zi (-1)), (4, zi (-1)), (5, zi 1)], [], m) κ) :
    T (D + 6) 152 (0, [(0, zr 1), (1, zi p)], [], m) κ := by
  have hb1 : 0 ≤ (m 17 0) ∧ (m 17 0) ≤ 6 := hB 17 0
  have he0 : wr p = p := wr_id (by omega) (by omega)
  have he1 : wr (m 17 0) = (m 17 0) := wr_id (by omega) (by omega)
  have key := @zb152_0r T hT D κ m p
  simp only [he0, he1, Int.toNat_natCast] at key
  exact key
    k1
    k2
    k3
theorem zb152_23r (hT : zRules T) {D : Nat} {κ : Option zA → zM → Prop} {m : zM} {p : Nat} {c : Nat} {a : Int} {z : Int} {h : Nat} {lo : zL} (hlo : z_keep [0, 1, 2, 3, 4, 5] lo = [(0, zr 1), (1, zi (p : Int)), (2, zi (c : Int)), (3, zi a), (4, zi z), (5, zi (h : Int))]) 
    (o1 : 99 < wr (h : Int) → κ (some (zi (wr (c : Int)))) (zu (zu (zu m 72 1 2) 73 0 a) 73 1 z))
    (o2 : ¬ 99 < wr (h : Int) → T (D + 5) 184 (0, [(0, zr 1), (1, zi (p : Int)), (2, zi (h : Int))], [], m) (fun r m1 => T (D + 6) 152 (37, [(0, zr 1), (1, zi (p : Int)), (2, zi (c : Int)), (3, zi a), (4, zi z), (5, zi (h : Int))], r.toList ++ [], m1) κ)) :
    T (D + 6) 152 (23, lo, [], m) κ :=
  zkeep hT hlo (hT.1 [(23, [0, 1, 2, 3, 4, 5])] 6 (D + 6) 152 _ κ (And.intro (fun a1 => (hT.1 [(23, [0, 1, 2, 3, 4, 5])] 6 (D + 6) 152 (70, [(0, zr 1), (1, zi (p : Int)), (2, zi (c : Int)), (3, zi a), (4, zi z), (5, zi (h : Int))], [zi a, zr 72], m) _ (hT.1 [] 6 (D + 5) 46 _ _ (And.intro trivial (hT.1 [] 6 (D + 5) 46 (10, [(0, zr 72), (1, zi a), (2, zi z)], [zi 0, zr 73], (zu m 72 1 2)) _ (And.intro (And.intro (z_ixL rfl) trivial) (hT.1 [] 6 (D + 5) 46 (18, [(0, zr 72), (1, zi a), (2, zi z)], [zi z, zi 1, zr 73], (zu (zu m 72 1 2) 73 0 a)) _ (And.intro (And.intro (z_ixL rfl) trivial) (hT.1 [(23, [0, 1, 2, 3, 4, 5])] 6 (D + 6) 152 _ _ (o1 a1)))))))))) (fun a2 => (hT.1 [(23, [0, 1, 2, 3, 4, 5])] 6 (D + 6) 152 (34, [(0, zr 1), (1, zi (p : Int)), (2, zi (c : Int)), (3, zi a), (4, zi z), (5, zi (h : Int))], [zi (h : Int), zi (p : Int), zr 1], m) _ (o2 a2)))))
theorem zb152_23 (hT : zRules T) {D : Nat} {κ : Option zA → zM → Prop} {m : zM} {p : Nat} {c : Nat} {a : Int} {z : Int} {h : Nat} {lo : zL} (hlo : z_keep [0, 1, 2, 3, 4, 5] lo = [(0, zr 1), (1, zi (p : Int)), (2, zi (c : Int)), (3, zi a), (4, zi z), (5, zi (h : Int))])  (hB : zB m) (h_p : p ≤ 5) (h_c : c ≤ 99) (h_a : (-1) ≤ a ∧ a ≤ 99) (h_z : (-1) ≤ z ∧ z ≤ 99) (h_h : h ≤ 100) 
    (k1 : 99 < (h : Int) → zB (zu (zu (zu m 72 1 2) 73 0 a) 73 1 z) → κ (some (zi (c : Int))) (zu (zu (zu m 72 1 2) 73 0 a) 73 1 z))
    (k2 : ¬ 99 < (h : Int) → T (D + 5) 184 (0, [(0, zr 1), (1, zi (p : Int)), (2, zi (h : Int))], [], m) (fun r m1 => T (D + 6) 152 (37, [(0, zr 1), (1, zi (p : Int)), (2, zi (c : Int)), (3, zi a), (4, zi z), (5, zi (h : Int))], r.toList ++ [], m1) κ)) :
    T (D + 6) 152 (23, lo, [], m) κ := by
  have he0 : wr (h : Int) = (h : Int) := wr_id (by omega) (by omega)
  have he1 : wr (c : Int) = (c : Int) := wr_id (by omega) (by omega)
  have key := @zb152_23r T hT D κ m p c a z h lo hlo
  simp only [he0, he1, Int.toNat_natCast] at key
  exact key
    (fun x0 => k1 x0 (zB_u (zB_u (zB_u hB (show 0 ≤ 2 ∧ 2 ≤ 26 from ⟨by omega, by omega⟩)) trivial) trivial))
    k2
theorem zb152_37r (hT : zRules T) {D : Nat} {κ : Option zA → zM → Prop} {m : zM} {p : Nat} {c : Nat} {a : Int} {z : Int} {h : Nat} {v : Int} {lo : zL} (hlo : z_keep [0, 1, 2, 3, 4, 5] lo = [(0, zr 1), (1, zi (p : Int)), (2, zi (c : Int)), (3, zi a), (4, zi z), (5, zi (h : Int))]) 
    (o1 : wr v = 0 → T (D + 6) 152 (23, [(0, zr 1), (1, zi (p : Int)), (2, zi (c : Int)), (3, zi a), (4, zi z), (5, zi ((h : Int) + 1))], [], m) κ)
    (o2 : ¬ wr v = 0 → ¬ wr a = (-1) → T (D + 6) 152 (23, [(0, zr 1), (1, zi (p : Int)), (2, zi ((c : Int) + 1)), (3, zi a), (4, zi (h : Int)), (5, zi ((h : Int) + 1))], [], m) κ)
    (o3 : ¬ wr v = 0 → wr a = (-1) → T (D + 6) 152 (23, [(0, zr 1), (1, zi (p : Int)), (2, zi ((c : Int) + 1)), (3, zi (h : Int)), (4, zi (h : Int)), (5, zi ((h : Int) + 1))], [], m) κ) :
    T (D + 6) 152 (37, lo, [zi v], m) κ :=
  zkeep hT hlo (hT.1 [(23, [0, 1, 2, 3, 4, 5])] 6 (D + 6) 152 _ κ (And.intro (fun a1 => (o1 a1)) (fun a2 => (And.intro (fun a3 => (hT.1 [(23, [0, 1, 2, 3, 4, 5])] 6 (D + 6) 152 (54, [(0, zr 1), (1, zi (p : Int)), (2, zi ((c : Int) + 1)), (3, zi a), (4, zi z), (5, zi (h : Int))], [zi a], m) _ (o2 a2 a3))) (fun a4 => (hT.1 [(23, [0, 1, 2, 3, 4, 5])] 6 (D + 6) 152 (50, [(0, zr 1), (1, zi (p : Int)), (2, zi ((c : Int) + 1)), (3, zi a), (4, zi z), (5, zi (h : Int))], [zi (h : Int)], m) _ (o3 a2 (Classical.byContradiction a4))))))))
theorem zb152_37 (hT : zRules T) {D : Nat} {κ : Option zA → zM → Prop} {m : zM} {p : Nat} {c : Nat} {a : Int} {z : Int} {h : Nat} {v : Int} {lo : zL} (hlo : z_keep [0, 1, 2, 3, 4, 5] lo = [(0, zr 1), (1, zi (p : Int)), (2, zi (c : Int)), (3, zi a), (4, zi z), (5, zi (h : Int))])  (hB : zB m) (h_p : p ≤ 5) (h_c : c ≤ 99) (h_a : (-1) ≤ a ∧ a ≤ 99) (h_z : (-1) ≤ z ∧ z ≤ 99) (h_h : h ≤ 99) (h_v : 0 ≤ v ∧ v ≤ 1) 
    (k1 : v = 0 → T (D + 6) 152 (23, [(0, zr 1), (1, zi (p : Int)), (2, zi (c : Int)), (3, zi a), (4, zi z), (5, zi ((h : Int) + 1))], [], m) κ)
    (k2 : ¬ v = 0 → ¬ a = (-1) → T (D + 6) 152 (23, [(0, zr 1), (1, zi (p : Int)), (2, zi ((c : Int) + 1)), (3, zi a), (4, zi (h : Int)), (5, zi ((h : Int) + 1))], [], m) κ)
    (k3 : ¬ v = 0 → a = (-1) → T (D + 6) 152 (23, [(0, zr 1), (1, zi (p : Int)), (2, zi ((c : Int) + 1)), (3, zi (h : Int)), (4, zi (h : Int)), (5, zi ((h : Int) + 1))], [], m) κ) :
    T (D + 6) 152 (37, lo, [zi v], m) κ := by
  have he0 : wr v = v := wr_id (by omega) (by omega)
  have he1 : wr a = a := wr_id (by omega) (by omega)
  have key := @zb152_37r T hT D κ m p c a z h v lo hlo
  simp only [he0, he1, Int.toNat_natCast] at key
  exact key
    k1
    k2
    k3
theorem zb184_0r (hT : zRules T) {D : Nat} {κ : Option zA → zM → Prop} {m : zM} {p : Nat} {h : Nat} 
    (o1 : T (D + 5) 184 (2, [(0, zr 1), (1, zi (p : Int)), (2, zi (h : Int)), (3, zi 0)], [], m) κ) :
    T (D + 5) 184 (0, [(0, zr 1), (1, zi (p : Int)), (2, zi (h : Int))], [], m) κ :=
  hT.1 [(2, [0, 1, 2, 3])] 6 (D + 5) 184 _ κ (o1)
theorem zb184_0 (hT : zRules T) {D : Nat} {κ : Option zA → zM → Prop} {m : zM} {p : Nat} {h : Nat}  (hB : zB m) (h_p : p ≤ 5) (h_h : h ≤ 99) 
    (k1 : T (D + 5) 184 (2, [(0, zr 1), (1, zi (p : Int)), (2, zi (h : Int)), (3, zi 0)], [], m) κ) :
    T (D + 5) 184 (0, [(0, zr 1), (1, zi (p : Int)), (2, zi (h : Int))], [], m) κ := by
  exact zb184_0r hT
    k1
theorem zb184_2r (hT : zRules T) {D : Nat} {κ : Option zA → zM → Prop} {m : zM} {p : Nat} {h : Nat} {i : Nat} {lo : zL} (hlo : z_keep [0, 1, 2, 3] lo = [(0, zr 1), (1, zi (p : Int)), (2, zi (h : Int)), (3, zi (i : Int))]) 
    (o1 : ¬ wr (i : Int) < wr (m 59 4) → κ (some (zi 1)) m)
    (o2 : wr (i : Int) < wr (m 59 4) → (0 ≤ wr (i : Int) ∧ wr (i : Int) < 12))
    (o3 : wr (i : Int) < wr (m 59 4) → ¬ wr (m 60 ((wr (i : Int)).toNat)) = wr (p : Int) → T (D + 5) 184 (2, [(0, zr 1), (1, zi (p : Int)), (2, zi (h : Int)), (3, zi ((i : Int) + 1))], [], m) κ)
    (o4 : wr (i : Int) < wr (m 59 4) → wr (m 60 ((wr (i : Int)).toNat)) = wr (p : Int) → (0 ≤ wr (i : Int) ∧ wr (i : Int) < 12))
    (o5 : wr (i : Int) < wr (m 59 4) → wr (m 60 ((wr (i : Int)).toNat)) = wr (p : Int) → (0 ≤ wr (i : Int) ∧ wr (i : Int) < 12))
    (o6 : wr (i : Int) < wr (m 59 4) → wr (m 60 ((wr (i : Int)).toNat)) = wr (p : Int) → T (D + 4) 170 (0, [(0, zr 1), (1, zi (h : Int)), (2, zi (p : Int)), (3, zi (m 61 ((wr (i : Int)).toNat))), (4, zi (m 62 ((wr (i : Int)).toNat)))], [], m) (fun r m1 => T (D + 5) 184 (50, [(0, zr 1), (1, zi (p : Int)), (2, zi (h : Int)), (3, zi (i : Int))], r.toList ++ [], m1) κ)) :
    T (D + 5) 184 (2, lo, [], m) κ :=
  zkeep hT hlo (hT.1 [(2, [0, 1, 2, 3])] 6 (D + 5) 184 _ κ (And.intro (fun a1 => (hT.1 [(2, [0, 1, 2, 3])] 6 (D + 5) 184 (71, [(0, zr 1), (1, zi (p : Int)), (2, zi (h : Int)), (3, zi (i : Int))], [zi 1], m) _ (And.intro (z_b01L rfl) (o1 a1)))) (fun a2 => (hT.1 [(2, [0, 1, 2, 3])] 6 (D + 5) 184 (14, [(0, zr 1), (1, zi (p : Int)), (2, zi (h : Int)), (3, zi (i : Int))], [zr 1], m) _ (And.intro (o2 (Classical.byContradiction a2)) (And.intro (fun a3 => (hT.1 [(2, [0, 1, 2, 3])] 6 (D + 5) 184 (64, [(0, zr 1), (1, zi (p : Int)), (2, zi (h : Int)), (3, zi (i : Int))], [], m) _ (o3 (Classical.byContradiction a2) a3))) (fun a4 => (hT.1 [(2, [0, 1, 2, 3])] 6 (D + 5) 184 (26, [(0, zr 1), (1, zi (p : Int)), (2, zi (h : Int)), (3, zi (i : Int))], [], m) _ (hT.1 [(2, [0, 1, 2, 3])] 6 (D + 5) 184 (36, [(0, zr 1), (1, zi (p : Int)), (2, zi (h : Int)), (3, zi (i : Int))], [zr 61, zi (p : Int), zi (h : Int), zr 1], m) _ (And.intro (o4 (Classical.byContradiction a2) (Classical.byContradiction a4)) (hT.1 [(2, [0, 1, 2, 3])] 6 (D + 5) 184 (46, [(0, zr 1), (1, zi (p : Int)), (2, zi (h : Int)), (3, zi (i : Int))], [zi (i : Int), zr 62, zi (m 61 ((wr (i : Int)).toNat)), zi (p : Int), zi (h : Int), zr 1], m) _ (And.intro (o5 (Classical.byContradiction a2) (Classical.byContradiction a4)) (o6 (Classical.byContradiction a2) (Classical.byContradiction a4))))))))))))))
theorem zb184_2 (hT : zRules T) {D : Nat} {κ : Option zA → zM → Prop} {m : zM} {p : Nat} {h : Nat} {i : Nat} {lo : zL} (hlo : z_keep [0, 1, 2, 3] lo = [(0, zr 1), (1, zi (p : Int)), (2, zi (h : Int)), (3, zi (i : Int))])  (hB : zB m) (h_p : p ≤ 5) (h_h : h ≤ 99) (h_i : i ≤ 12) 
    (k1 : ¬ (i : Int) < (m 59 4) → κ (some (zi 1)) m)
    (k2 : (i : Int) < (m 59 4) → ¬ (m 60 i) = (p : Int) → T (D + 5) 184 (2, [(0, zr 1), (1, zi (p : Int)), (2, zi (h : Int)), (3, zi ((i : Int) + 1))], [], m) κ)
    (k3 : (i : Int) < (m 59 4) → (m 60 i) = (p : Int) → T (D + 4) 170 (0, [(0, zr 1), (1, zi (h : Int)), (2, zi (p : Int)), (3, zi (m 61 i)), (4, zi (m 62 i))], [], m) (fun r m1 => T (D + 5) 184 (50, [(0, zr 1), (1, zi (p : Int)), (2, zi (h : Int)), (3, zi (i : Int))], r.toList ++ [], m1) κ)) :
    T (D + 5) 184 (2, lo, [], m) κ := by
  have hb3 : 0 ≤ (m 59 4) ∧ (m 59 4) ≤ 12 := hB 59 4
  have hb4 : 0 ≤ (m 60 i) ∧ (m 60 i) ≤ 5 := hB 60 i
  have hb5 : 0 ≤ (m 61 i) ∧ (m 61 i) ≤ 3 := hB 61 i
  have hb6 : 0 ≤ (m 62 i) ∧ (m 62 i) ≤ 9999 := hB 62 i
  have he0 : wr (i : Int) = (i : Int) := wr_id (by omega) (by omega)
  have he1 : wr (m 59 4) = (m 59 4) := wr_id (by omega) (by omega)
  have he2 : (i : Int).toNat = i := by omega
  have he3 : wr (m 60 i) = (m 60 i) := wr_id (by omega) (by omega)
  have he4 : wr (p : Int) = (p : Int) := wr_id (by omega) (by omega)
  have key := @zb184_2r T hT D κ m p h i lo hlo
  simp only [he0, he1, he2, he3, he4, Int.toNat_natCast] at key
  exact key
    k1
    (fun x0 => by refine ⟨?_, ?_⟩ <;> omega)
    k2
    (fun x0 x1 => by refine ⟨?_, ?_⟩ <;> omega)
    (fun x0 x1 => by refine ⟨?_, ?_⟩ <;> omega)
    k3
theorem zb184_50r (hT : zRules T) {D : Nat} {κ : Option zA → zM → Prop} {m : zM} {p : Nat} {h : Nat} {i : Nat} {v : Int} {lo : zL} (hlo : z_keep [0, 1, 2, 3] lo = [(0, zr 1), (1, zi (p : Int)), (2, zi (h : Int)), (3, zi (i : Int))]) 
    (o1 : (0 ≤ wr (i : Int) ∧ wr (i : Int) < 12))
    (o2 : wr v = wr (m 63 ((wr (i : Int)).toNat)) → T (D + 5) 184 (2, [(0, zr 1), (1, zi (p : Int)), (2, zi (h : Int)), (3, zi ((i : Int) + 1))], [], m) κ)
    (o3 : ¬ wr v = wr (m 63 ((wr (i : Int)).toNat)) → κ (some (zi 0)) m) :
    T (D + 5) 184 (50, lo, [zi v], m) κ :=
  zkeep hT hlo (hT.1 [(2, [0, 1, 2, 3])] 6 (D + 5) 184 _ κ (And.intro (o1) (And.intro (fun a1 => (hT.1 [(2, [0, 1, 2, 3])] 6 (D + 5) 184 (64, [(0, zr 1), (1, zi (p : Int)), (2, zi (h : Int)), (3, zi (i : Int))], [], m) _ (o2 a1))) (fun a2 => (hT.1 [(2, [0, 1, 2, 3])] 6 (D + 5) 184 (62, [(0, zr 1), (1, zi (p : Int)), (2, zi (h : Int)), (3, zi (i : Int))], [], m) _ (And.intro (z_b01L rfl) (o3 a2)))))))
theorem zb184_50 (hT : zRules T) {D : Nat} {κ : Option zA → zM → Prop} {m : zM} {p : Nat} {h : Nat} {i : Nat} {v : Int} {lo : zL} (hlo : z_keep [0, 1, 2, 3] lo = [(0, zr 1), (1, zi (p : Int)), (2, zi (h : Int)), (3, zi (i : Int))])  (hB : zB m) (h_p : p ≤ 5) (h_h : h ≤ 99) (h_i : i ≤ 11) (h_v : 0 ≤ v ∧ v ≤ 99) 
    (k1 : v = (m 63 i) → T (D + 5) 184 (2, [(0, zr 1), (1, zi (p : Int)), (2, zi (h : Int)), (3, zi ((i : Int) + 1))], [], m) κ)
    (k2 : ¬ v = (m 63 i) → κ (some (zi 0)) m) :
    T (D + 5) 184 (50, lo, [zi v], m) κ := by
  have hb4 : 0 ≤ (m 63 i) ∧ (m 63 i) ≤ 99 := hB 63 i
  have he0 : wr (i : Int) = (i : Int) := wr_id (by omega) (by omega)
  have he1 : (i : Int).toNat = i := by omega
  have he2 : wr v = v := wr_id (by omega) (by omega)
  have he3 : wr (m 63 i) = (m 63 i) := wr_id (by omega) (by omega)
  have key := @zb184_50r T hT D κ m p h i v lo hlo
  simp only [he0, he1, he2, he3, Int.toNat_natCast] at key
  exact key
    (by refine ⟨?_, ?_⟩ <;> omega)
    k1
    k2
theorem zb277_0r (hT : zRules T) {D : Nat} {κ : Option zA → zM → Prop} {m : zM} {p : Int} 
    (o1 : wr p < 0 → κ (some (zi (-1))) (zu m 74 12 0))
    (o2 : ¬ wr p < 0 → wr ((m 74 4) - 1) < wr p → κ (some (zi (-1))) (zu m 74 12 0))
    (o3 : ¬ wr p < 0 → ¬ wr ((m 74 4) - 1) < wr p → T (D + 3) 277 (25, [(0, zr 74), (1, zi p), (2, zi 0), (3, zi (-1)), (4, zi (-1)), (5, zi 1)], [], (zu m 74 12 0)) κ) :
    T (D + 3) 277 (0, [(0, zr 74), (1, zi p)], [], m) κ :=
  hT.1 [(25, [0, 1, 2, 3, 4, 5]), (38, [0, 1, 2, 3, 4, 5, 6, 7])] 6 (D + 3) 277 _ κ (And.intro trivial (hT.1 [] 6 (D + 2) 190 _ _ (hT.1 [] 6 (D + 2) 190 (8, [(0, zr 74), (1, zi p)], [zi ((m 74 4) - 1), zi 0, zi p], (zu m 74 12 0)) _ (hT.1 [] 6 (D + 1) 186 _ _ (And.intro (fun a1 => (And.intro (z_b01L rfl) (hT.1 [] 6 (D + 2) 190 _ _ (And.intro (z_b01L rfl) (hT.1 [(25, [0, 1, 2, 3, 4, 5]), (38, [0, 1, 2, 3, 4, 5, 6, 7])] 6 (D + 3) 277 _ _ (And.intro (fun a3 => (z_litF a3 rfl).elim) (fun _ => (o1 a1)))))))) (fun a2 => (And.intro (fun a4 => (hT.1 [] 6 (D + 1) 186 (14, [(0, zi p), (1, zi 0), (2, zi ((m 74 4) - 1))], [], (zu m 74 12 0)) _ (And.intro (z_b01L rfl) (hT.1 [] 6 (D + 2) 190 _ _ (And.intro (z_b01L rfl) (hT.1 [(25, [0, 1, 2, 3, 4, 5]), (38, [0, 1, 2, 3, 4, 5, 6, 7])] 6 (D + 3) 277 _ _ (And.intro (fun a6 => (z_litF a6 rfl).elim) (fun _ => (o2 a2 a4))))))))) (fun a5 => (hT.1 [] 6 (D + 1) 186 (10, [(0, zi p), (1, zi 0), (2, zi ((m 74 4) - 1))], [], (zu m 74 12 0)) _ (And.intro (z_b01L rfl) (hT.1 [] 6 (D + 2) 190 _ _ (And.intro (z_b01L rfl) (hT.1 [(25, [0, 1, 2, 3, 4, 5]), (38, [0, 1, 2, 3, 4, 5, 6, 7])] 6 (D + 3) 277 _ _ (And.intro (fun _ => (hT.1 [(25, [0, 1, 2, 3, 4, 5]), (38, [0, 1, 2, 3, 4, 5, 6, 7])] 6 (D + 3) 277 (20, [(0, zr 74), (1, zi p), (2, zi 0), (3, zi (-1))], [zi (-1)], (zu m 74 12 0)) _ (o3 a2 a5))) (fun a7 => (a7 (z_litT rfl)).elim)))))))))))))))
theorem zb277_0 (hT : zRules T) {D : Nat} {κ : Option zA → zM → Prop} {m : zM} {p : Int}  (hB : zB m) (h_p : (-2147483648) ≤ p ∧ p ≤ 2147483647) 
    (k1 : p < 0 → zB (zu m 74 12 0) → κ (some (zi (-1))) (zu m 74 12 0))
    (k2 : ¬ p < 0 → ((m 74 4) - 1) < p → zB (zu m 74 12 0) → κ (some (zi (-1))) (zu m 74 12 0))
    (k3 : ¬ p < 0 → ¬ ((m 74 4) - 1) < p → zB (zu m 74 12 0) → T (D + 3) 277 (25, [(0, zr 74), (1, zi p), (2, zi 0), (3, zi (-1)), (4, zi (-1)), (5, zi 1)], [], (zu m 74 12 0)) κ) :
    T (D + 3) 277 (0, [(0, zr 74), (1, zi p)], [], m) κ := by
  have hb1 : 0 ≤ (m 74 4) ∧ (m 74 4) ≤ 6 := hB 74 4
  have he0 : wr p = p := wr_id (by omega) (by omega)
  have he1 : wr ((m 74 4) - 1) = ((m 74 4) - 1) := wr_id (by omega) (by omega)
  have key := @zb277_0r T hT D κ m p
  simp only [he0, he1, Int.toNat_natCast] at key
  exact key
    (fun x0 => k1 x0 (zB_u hB trivial))
    (fun x0 x1 => k2 x0 x1 (zB_u hB trivial))
    (fun x0 x1 => k3 x0 x1 (zB_u hB trivial))
theorem zb277_25r (hT : zRules T) {D : Nat} {κ : Option zA → zM → Prop} {m : zM} {p : Nat} {c : Nat} {a : Int} {z : Int} {h : Nat} {lo : zL} (hlo : z_keep [0, 1, 2, 3, 4, 5] lo = [(0, zr 74), (1, zi (p : Int)), (2, zi (c : Int)), (3, zi a), (4, zi z), (5, zi (h : Int))]) 
    (o1 : 99 < wr (h : Int) → κ (some (zi (wr (c : Int)))) (zu (zu (zu (zu (zu m 74 11 0) 81 0 a) 74 11 1) 81 1 z) 74 11 2))
    (o2 : ¬ 99 < wr (h : Int) → T (D + 3) 277 (38, [(0, zr 74), (1, zi (p : Int)), (2, zi (c : Int)), (3, zi a), (4, zi z), (5, zi (h : Int)), (6, zi 1), (7, zi 0)], [], m) κ) :
    T (D + 3) 277 (25, lo, [], m) κ :=
  zkeep hT hlo (hT.1 [(25, [0, 1, 2, 3, 4, 5]), (38, [0, 1, 2, 3, 4, 5, 6, 7])] 6 (D + 3) 277 _ κ (And.intro (fun a1 => (And.intro trivial (hT.1 [(25, [0, 1, 2, 3, 4, 5]), (38, [0, 1, 2, 3, 4, 5, 6, 7])] 6 (D + 3) 277 (154, [(0, zr 74), (1, zi (p : Int)), (2, zi (c : Int)), (3, zi a), (4, zi z), (5, zi (h : Int))], [], (zu m 74 11 0)) _ (hT.1 [] 6 (D + 2) 189 _ _ (And.intro (And.intro (z_ixL rfl) trivial) (hT.1 [] 6 (D + 2) 189 (10, [(0, zr 74), (1, zi a)], [], (zu (zu m 74 11 0) 81 0 a)) _ (And.intro trivial (hT.1 [] 6 (D + 2) 189 (20, [(0, zr 74), (1, zi a)], [], (zu (zu (zu m 74 11 0) 81 0 a) 74 11 1)) _ (hT.1 [(25, [0, 1, 2, 3, 4, 5]), (38, [0, 1, 2, 3, 4, 5, 6, 7])] 6 (D + 3) 277 _ _ (hT.1 [] 6 (D + 2) 189 _ _ (And.intro (And.intro (z_ixL rfl) trivial) (hT.1 [] 6 (D + 2) 189 (10, [(0, zr 74), (1, zi z)], [], (zu (zu (zu (zu m 74 11 0) 81 0 a) 74 11 1) 81 1 z)) _ (And.intro trivial (hT.1 [] 6 (D + 2) 189 (20, [(0, zr 74), (1, zi z)], [], (zu (zu (zu (zu (zu m 74 11 0) 81 0 a) 74 11 1) 81 1 z) 74 11 2)) _ (hT.1 [(25, [0, 1, 2, 3, 4, 5]), (38, [0, 1, 2, 3, 4, 5, 6, 7])] 6 (D + 3) 277 _ _ (o1 a1)))))))))))))))) (fun a2 => (hT.1 [(25, [0, 1, 2, 3, 4, 5]), (38, [0, 1, 2, 3, 4, 5, 6, 7])] 6 (D + 3) 277 (36, [(0, zr 74), (1, zi (p : Int)), (2, zi (c : Int)), (3, zi a), (4, zi z), (5, zi (h : Int)), (6, zi 1)], [zi 0], m) _ (o2 a2)))))
theorem zb277_25 (hT : zRules T) {D : Nat} {κ : Option zA → zM → Prop} {m : zM} {p : Nat} {c : Nat} {a : Int} {z : Int} {h : Nat} {lo : zL} (hlo : z_keep [0, 1, 2, 3, 4, 5] lo = [(0, zr 74), (1, zi (p : Int)), (2, zi (c : Int)), (3, zi a), (4, zi z), (5, zi (h : Int))])  (hB : zB m) (h_p : p ≤ 5) (h_c : c ≤ 99) (h_a : (-1) ≤ a ∧ a ≤ 99) (h_z : (-1) ≤ z ∧ z ≤ 99) (h_h : h ≤ 100) 
    (k1 : 99 < (h : Int) → zB (zu (zu (zu (zu (zu m 74 11 0) 81 0 a) 74 11 1) 81 1 z) 74 11 2) → κ (some (zi (c : Int))) (zu (zu (zu (zu (zu m 74 11 0) 81 0 a) 74 11 1) 81 1 z) 74 11 2))
    (k2 : ¬ 99 < (h : Int) → T (D + 3) 277 (38, [(0, zr 74), (1, zi (p : Int)), (2, zi (c : Int)), (3, zi a), (4, zi z), (5, zi (h : Int)), (6, zi 1), (7, zi 0)], [], m) κ) :
    T (D + 3) 277 (25, lo, [], m) κ := by
  have he0 : wr (h : Int) = (h : Int) := wr_id (by omega) (by omega)
  have he1 : wr (c : Int) = (c : Int) := wr_id (by omega) (by omega)
  have key := @zb277_25r T hT D κ m p c a z h lo hlo
  simp only [he0, he1, Int.toNat_natCast] at key
  exact key
    (fun x0 => k1 x0 (zB_u (zB_u (zB_u (zB_u (zB_u hB (show 0 ≤ 0 ∧ 0 ≤ 32 from ⟨by omega, by omega⟩)) trivial) (show 0 ≤ 1 ∧ 1 ≤ 32 from ⟨by omega, by omega⟩)) trivial) (show 0 ≤ 2 ∧ 2 ≤ 32 from ⟨by omega, by omega⟩)))
    k2
theorem zb277_38r (hT : zRules T) {D : Nat} {κ : Option zA → zM → Prop} {m : zM} {p : Nat} {c : Nat} {a : Int} {z : Int} {h : Nat} {s : Int} {i : Nat} {lo : zL} (hlo : z_keep [0, 1, 2, 3, 4, 5, 6, 7] lo = [(0, zr 74), (1, zi (p : Int)), (2, zi (c : Int)), (3, zi a), (4, zi z), (5, zi (h : Int)), (6, zi s), (7, zi (i : Int))]) 
    (o1 : ¬ wr (i : Int) < wr (m 74 52) → ¬ wr s = 0 → ¬ wr (c : Int) = 0 → T (D + 3) 277 (25, [(0, zr 74), (1, zi (p : Int)), (2, zi ((c : Int) + 1)), (3, zi a), (4, zi (h : Int)), (5, zi ((h : Int) + 1))], [], m) κ)
    (o2 : ¬ wr (i : Int) < wr (m 74 52) → ¬ wr s = 0 → wr (c : Int) = 0 → T (D + 3) 277 (25, [(0, zr 74), (1, zi (p : Int)), (2, zi ((c : Int) + 1)), (3, zi (h : Int)), (4, zi (h : Int)), (5, zi ((h : Int) + 1))], [], m) κ)
    (o3 : ¬ wr (i : Int) < wr (m 74 52) → wr s = 0 → T (D + 3) 277 (25, [(0, zr 74), (1, zi (p : Int)), (2, zi (c : Int)), (3, zi a), (4, zi z), (5, zi ((h : Int) + 1))], [], m) κ)
    (o4 : wr (i : Int) < wr (m 74 52) → wr s = 0 → ¬ wr s = 0 → False)
    (o5 : wr (i : Int) < wr (m 74 52) → wr s = 0 → wr s = 0 → T (D + 3) 277 (25, [(0, zr 74), (1, zi (p : Int)), (2, zi (c : Int)), (3, zi a), (4, zi z), (5, zi ((h : Int) + 1))], [], m) κ)
    (o6 : wr (i : Int) < wr (m 74 52) → ¬ wr s = 0 → (0 ≤ wr (4 * (i : Int)) ∧ wr (4 * (i : Int)) < 48))
    (o7 : wr (i : Int) < wr (m 74 52) → ¬ wr s = 0 → ¬ wr (m 99 ((wr (4 * (i : Int))).toNat)) = wr (p : Int) → T (D + 3) 277 (38, [(0, zr 74), (1, zi (p : Int)), (2, zi (c : Int)), (3, zi a), (4, zi z), (5, zi (h : Int)), (6, zi 1), (7, zi ((i : Int) + 1))], [], m) κ)
    (o8 : wr (i : Int) < wr (m 74 52) → ¬ wr s = 0 → wr (m 99 ((wr (4 * (i : Int))).toNat)) = wr (p : Int) → (0 ≤ wr ((4 * (i : Int)) + 1) ∧ wr ((4 * (i : Int)) + 1) < 48))
    (o9 : wr (i : Int) < wr (m 74 52) → ¬ wr s = 0 → wr (m 99 ((wr (4 * (i : Int))).toNat)) = wr (p : Int) → (0 ≤ wr ((4 * (i : Int)) + 2) ∧ wr ((4 * (i : Int)) + 2) < 48))
    (o10 : wr (i : Int) < wr (m 74 52) → ¬ wr s = 0 → wr (m 99 ((wr (4 * (i : Int))).toNat)) = wr (p : Int) → T (D + 2) 214 (0, [(0, zr 74), (1, zi (p : Int)), (2, zi (h : Int)), (3, zi (m 99 ((wr ((4 * (i : Int)) + 1)).toNat))), (4, zi (m 99 ((wr ((4 * (i : Int)) + 2)).toNat)))], [], m) (fun r m1 => T (D + 3) 277 (94, [(0, zr 74), (1, zi (p : Int)), (2, zi (c : Int)), (3, zi a), (4, zi z), (5, zi (h : Int)), (6, zi s), (7, zi (i : Int))], r.toList ++ [], m1) κ)) :
    T (D + 3) 277 (38, lo, [], m) κ :=
  zkeep hT hlo (hT.1 [(25, [0, 1, 2, 3, 4, 5]), (38, [0, 1, 2, 3, 4, 5, 6, 7])] 6 (D + 3) 277 _ κ (And.intro (fun a1 => (And.intro (fun a3 => (hT.1 [(25, [0, 1, 2, 3, 4, 5]), (38, [0, 1, 2, 3, 4, 5, 6, 7])] 6 (D + 3) 277 (129, [(0, zr 74), (1, zi (p : Int)), (2, zi (c : Int)), (3, zi a), (4, zi z), (5, zi (h : Int)), (6, zi s), (7, zi (i : Int))], [], m) _ (And.intro (fun a5 => (hT.1 [(25, [0, 1, 2, 3, 4, 5]), (38, [0, 1, 2, 3, 4, 5, 6, 7])] 6 (D + 3) 277 (146, [(0, zr 74), (1, zi (p : Int)), (2, zi ((c : Int) + 1)), (3, zi a), (4, zi (h : Int)), (5, zi ((h : Int) + 1)), (6, zi s), (7, zi (i : Int))], [], m) _ (o1 a1 a3 a5))) (fun a6 => (hT.1 [(25, [0, 1, 2, 3, 4, 5]), (38, [0, 1, 2, 3, 4, 5, 6, 7])] 6 (D + 3) 277 (140, [(0, zr 74), (1, zi (p : Int)), (2, zi (c : Int)), (3, zi (h : Int)), (4, zi (h : Int)), (5, zi (h : Int)), (6, zi s), (7, zi (i : Int))], [], m) _ (o2 a1 a3 (Classical.byContradiction a6))))))) (fun a4 => (hT.1 [(25, [0, 1, 2, 3, 4, 5]), (38, [0, 1, 2, 3, 4, 5, 6, 7])] 6 (D + 3) 277 (126, [(0, zr 74), (1, zi (p : Int)), (2, zi (c : Int)), (3, zi a), (4, zi z), (5, zi (h : Int)), (6, zi s), (7, zi (i : Int))], [], m) _ (o3 a1 (Classical.byContradiction a4)))))) (fun a2 => (And.intro (fun a7 => (hT.1 [(25, [0, 1, 2, 3, 4, 5]), (38, [0, 1, 2, 3, 4, 5, 6, 7])] 6 (D + 3) 277 (121, [(0, zr 74), (1, zi (p : Int)), (2, zi (c : Int)), (3, zi a), (4, zi z), (5, zi (h : Int)), (6, zi s), (7, zi (i : Int))], [], m) _ (And.intro (fun a9 => (o4 (Classical.byContradiction a2) a7 a9).elim) (fun a10 => (o5 (Classical.byContradiction a2) a7 (Classical.byContradiction a10)))))) (fun a8 => (hT.1 [(25, [0, 1, 2, 3, 4, 5]), (38, [0, 1, 2, 3, 4, 5, 6, 7])] 6 (D + 3) 277 (52, [(0, zr 74), (1, zi (p : Int)), (2, zi (c : Int)), (3, zi a), (4, zi z), (5, zi (h : Int)), (6, zi s), (7, zi (i : Int))], [], m) _ (And.intro (o6 (Classical.byContradiction a2) a8) (hT.1 [(25, [0, 1, 2, 3, 4, 5]), (38, [0, 1, 2, 3, 4, 5, 6, 7])] 6 (D + 3) 277 (61, [(0, zr 74), (1, zi (p : Int)), (2, zi (c : Int)), (3, zi a), (4, zi z), (5, zi (h : Int)), (6, zi s), (7, zi (i : Int))], [zi (m 99 ((wr (4 * (i : Int))).toNat))], m) _ (And.intro (fun a11 => (hT.1 [(25, [0, 1, 2, 3, 4, 5]), (38, [0, 1, 2, 3, 4, 5, 6, 7])] 6 (D + 3) 277 (118, [(0, zr 74), (1, zi (p : Int)), (2, zi (c : Int)), (3, zi a), (4, zi z), (5, zi (h : Int)), (6, zi 1), (7, zi ((i : Int) + 1))], [], m) _ (o7 (Classical.byContradiction a2) a8 a11))) (fun a12 => (hT.1 [(25, [0, 1, 2, 3, 4, 5]), (38, [0, 1, 2, 3, 4, 5, 6, 7])] 6 (D + 3) 277 (70, [(0, zr 74), (1, zi (p : Int)), (2, zi (c : Int)), (3, zi a), (4, zi z), (5, zi (h : Int)), (6, zi s), (7, zi (i : Int))], [zr 74, zi (h : Int), zi (p : Int), zr 74], m) _ (hT.1 [(25, [0, 1, 2, 3, 4, 5]), (38, [0, 1, 2, 3, 4, 5, 6, 7])] 6 (D + 3) 277 (79, [(0, zr 74), (1, zi (p : Int)), (2, zi (c : Int)), (3, zi a), (4, zi z), (5, zi (h : Int)), (6, zi s), (7, zi (i : Int))], [zi ((4 * (i : Int)) + 1), zr 99, zi (h : Int), zi (p : Int), zr 74], m) _ (And.intro (o8 (Classical.byContradiction a2) a8 (Classical.byContradiction a12)) (hT.1 [(25, [0, 1, 2, 3, 4, 5]), (38, [0, 1, 2, 3, 4, 5, 6, 7])] 6 (D + 3) 277 (88, [(0, zr 74), (1, zi (p : Int)), (2, zi (c : Int)), (3, zi a), (4, zi z), (5, zi (h : Int)), (6, zi s), (7, zi (i : Int))], [zi (4 * (i : Int)), zr 99, zi (m 99 ((wr ((4 * (i : Int)) + 1)).toNat)), zi (h : Int), zi (p : Int), zr 74], m) _ (And.intro (o9 (Classical.byContradiction a2) a8 (Classical.byContradiction a12)) (o10 (Classical.byContradiction a2) a8 (Classical.byContradiction a12)))))))))))))))))
theorem zb277_38 (hT : zRules T) {D : Nat} {κ : Option zA → zM → Prop} {m : zM} {p : Nat} {c : Nat} {a : Int} {z : Int} {h : Nat} {s : Int} {i : Nat} {lo : zL} (hlo : z_keep [0, 1, 2, 3, 4, 5, 6, 7] lo = [(0, zr 74), (1, zi (p : Int)), (2, zi (c : Int)), (3, zi a), (4, zi z), (5, zi (h : Int)), (6, zi s), (7, zi (i : Int))])  (hB : zB m) (h_p : p ≤ 5) (h_c : c ≤ 99) (h_a : (-1) ≤ a ∧ a ≤ 99) (h_z : (-1) ≤ z ∧ z ≤ 99) (h_h : h ≤ 99) (h_s : 0 ≤ s ∧ s ≤ 1) (h_i : i ≤ 12) 
    (k1 : ¬ (i : Int) < (m 74 52) → ¬ s = 0 → ¬ (c : Int) = 0 → T (D + 3) 277 (25, [(0, zr 74), (1, zi (p : Int)), (2, zi ((c : Int) + 1)), (3, zi a), (4, zi (h : Int)), (5, zi ((h : Int) + 1))], [], m) κ)
    (k2 : ¬ (i : Int) < (m 74 52) → ¬ s = 0 → (c : Int) = 0 → T (D + 3) 277 (25, [(0, zr 74), (1, zi (p : Int)), (2, zi ((c : Int) + 1)), (3, zi (h : Int)), (4, zi (h : Int)), (5, zi ((h : Int) + 1))], [], m) κ)
    (k3 : ¬ (i : Int) < (m 74 52) → s = 0 → T (D + 3) 277 (25, [(0, zr 74), (1, zi (p : Int)), (2, zi (c : Int)), (3, zi a), (4, zi z), (5, zi ((h : Int) + 1))], [], m) κ)
    (k4 : (i : Int) < (m 74 52) → s = 0 → T (D + 3) 277 (25, [(0, zr 74), (1, zi (p : Int)), (2, zi (c : Int)), (3, zi a), (4, zi z), (5, zi ((h : Int) + 1))], [], m) κ)
    (k5 : (i : Int) < (m 74 52) → ¬ s = 0 → ¬ (m 99 (4 * i)) = (p : Int) → T (D + 3) 277 (38, [(0, zr 74), (1, zi (p : Int)), (2, zi (c : Int)), (3, zi a), (4, zi z), (5, zi (h : Int)), (6, zi 1), (7, zi ((i : Int) + 1))], [], m) κ)
    (k6 : (i : Int) < (m 74 52) → ¬ s = 0 → (m 99 (4 * i)) = (p : Int) → T (D + 2) 214 (0, [(0, zr 74), (1, zi (p : Int)), (2, zi (h : Int)), (3, zi (m 99 (4 * i + 1))), (4, zi (m 99 (4 * i + 2)))], [], m) (fun r m1 => T (D + 3) 277 (94, [(0, zr 74), (1, zi (p : Int)), (2, zi (c : Int)), (3, zi a), (4, zi z), (5, zi (h : Int)), (6, zi s), (7, zi (i : Int))], r.toList ++ [], m1) κ)) :
    T (D + 3) 277 (38, lo, [], m) κ := by
  have hb7 : 0 ≤ (m 74 52) ∧ (m 74 52) ≤ 12 := hB 74 52
  have hb8 : 0 ≤ (m 99 (4 * i)) ∧ (m 99 (4 * i)) ≤ 9999 := hB 99 (4 * i)
  have hb9 : 0 ≤ (m 99 (4 * i + 1)) ∧ (m 99 (4 * i + 1)) ≤ 9999 := hB 99 (4 * i + 1)
  have hb10 : 0 ≤ (m 99 (4 * i + 2)) ∧ (m 99 (4 * i + 2)) ≤ 9999 := hB 99 (4 * i + 2)
  have he0 : wr (i : Int) = (i : Int) := wr_id (by omega) (by omega)
  have he1 : wr (m 74 52) = (m 74 52) := wr_id (by omega) (by omega)
  have he2 : wr s = s := wr_id (by omega) (by omega)
  have he3 : wr (4 * (i : Int)) = (4 * (i : Int)) := wr_id (by omega) (by omega)
  have he4 : (4 * (i : Int)).toNat = 4 * i := by omega
  have he5 : wr (m 99 (4 * i)) = (m 99 (4 * i)) := wr_id (by omega) (by omega)
  have he6 : wr (p : Int) = (p : Int) := wr_id (by omega) (by omega)
  have he7 : wr ((4 * (i : Int)) + 1) = ((4 * (i : Int)) + 1) := wr_id (by omega) (by omega)
  have he8 : ((4 * (i : Int)) + 1).toNat = 4 * i + 1 := by omega
  have he9 : wr ((4 * (i : Int)) + 2) = ((4 * (i : Int)) + 2) := wr_id (by omega) (by omega)
  have he10 : ((4 * (i : Int)) + 2).toNat = 4 * i + 2 := by omega
  have he11 : wr (c : Int) = (c : Int) := wr_id (by omega) (by omega)
  have key := @zb277_38r T hT D κ m p c a z h s i lo hlo
  simp only [he0, he1, he2, he3, he4, he5, he6, he7, he8, he9, he10, he11, Int.toNat_natCast] at key
  exact key
    k1
    k2
    k3
    (fun x0 x1 x2 => by omega)
    (fun x0 x1 x2 => k4 x0 x1)
    (fun x0 x1 => by refine ⟨?_, ?_⟩ <;> omega)
    k5
    (fun x0 x1 x2 => by refine ⟨?_, ?_⟩ <;> omega)
    (fun x0 x1 x2 => by refine ⟨?_, ?_⟩ <;> omega)
    k6
theorem zb277_94r (hT : zRules T) {D : Nat} {κ : Option zA → zM → Prop} {m : zM} {p : Nat} {c : Nat} {a : Int} {z : Int} {h : Nat} {i : Nat} {v : Int} {lo : zL} (hlo : z_keep [0, 1, 2, 3, 4, 5, 7] lo = [(0, zr 74), (1, zi (p : Int)), (2, zi (c : Int)), (3, zi a), (4, zi z), (5, zi (h : Int)), (7, zi (i : Int))]) 
    (o1 : (0 ≤ wr ((4 * (i : Int)) + 3) ∧ wr ((4 * (i : Int)) + 3) < 48))
    (o2 : ¬ wr v = wr (m 99 ((wr ((4 * (i : Int)) + 3)).toNat)) → T (D + 3) 277 (38, [(0, zr 74), (1, zi (p : Int)), (2, zi (c : Int)), (3, zi a), (4, zi z), (5, zi (h : Int)), (6, zi 0), (7, zi ((i : Int) + 1))], [], m) κ)
    (o3 : wr v = wr (m 99 ((wr ((4 * (i : Int)) + 3)).toNat)) → T (D + 3) 277 (38, [(0, zr 74), (1, zi (p : Int)), (2, zi (c : Int)), (3, zi a), (4, zi z), (5, zi (h : Int)), (6, zi 1), (7, zi ((i : Int) + 1))], [], m) κ) :
    T (D + 3) 277 (94, lo, [zi v], m) κ :=
  zkeep hT hlo (hT.1 [(25, [0, 1, 2, 3, 4, 5]), (38, [0, 1, 2, 3, 4, 5, 6, 7])] 6 (D + 3) 277 _ κ (hT.1 [(25, [0, 1, 2, 3, 4, 5]), (38, [0, 1, 2, 3, 4, 5, 6, 7])] 6 (D + 3) 277 (103, [(0, zr 74), (1, zi (p : Int)), (2, zi (c : Int)), (3, zi a), (4, zi z), (5, zi (h : Int)), (7, zi (i : Int))], [zi 3, zi (4 * (i : Int)), zr 99, zi v], m) _ (And.intro (o1) (And.intro (fun a1 => (hT.1 [(25, [0, 1, 2, 3, 4, 5]), (38, [0, 1, 2, 3, 4, 5, 6, 7])] 6 (D + 3) 277 (118, [(0, zr 74), (1, zi (p : Int)), (2, zi (c : Int)), (3, zi a), (4, zi z), (5, zi (h : Int)), (6, zi 0), (7, zi ((i : Int) + 1))], [], m) _ (o2 a1))) (fun a2 => (hT.1 [(25, [0, 1, 2, 3, 4, 5]), (38, [0, 1, 2, 3, 4, 5, 6, 7])] 6 (D + 3) 277 (115, [(0, zr 74), (1, zi (p : Int)), (2, zi (c : Int)), (3, zi a), (4, zi z), (5, zi (h : Int)), (6, zi 1), (7, zi (i : Int))], [], m) _ (o3 (Classical.byContradiction a2))))))))
theorem zb277_94 (hT : zRules T) {D : Nat} {κ : Option zA → zM → Prop} {m : zM} {p : Nat} {c : Nat} {a : Int} {z : Int} {h : Nat} {i : Nat} {v : Int} {lo : zL} (hlo : z_keep [0, 1, 2, 3, 4, 5, 7] lo = [(0, zr 74), (1, zi (p : Int)), (2, zi (c : Int)), (3, zi a), (4, zi z), (5, zi (h : Int)), (7, zi (i : Int))])  (hB : zB m) (h_p : p ≤ 5) (h_c : c ≤ 99) (h_a : (-1) ≤ a ∧ a ≤ 99) (h_z : (-1) ≤ z ∧ z ≤ 99) (h_h : h ≤ 99) (h_i : i ≤ 11) (h_v : 0 ≤ v ∧ v ≤ 99) 
    (k1 : ¬ v = (m 99 (4 * i + 3)) → T (D + 3) 277 (38, [(0, zr 74), (1, zi (p : Int)), (2, zi (c : Int)), (3, zi a), (4, zi z), (5, zi (h : Int)), (6, zi 0), (7, zi ((i : Int) + 1))], [], m) κ)
    (k2 : v = (m 99 (4 * i + 3)) → T (D + 3) 277 (38, [(0, zr 74), (1, zi (p : Int)), (2, zi (c : Int)), (3, zi a), (4, zi z), (5, zi (h : Int)), (6, zi 1), (7, zi ((i : Int) + 1))], [], m) κ) :
    T (D + 3) 277 (94, lo, [zi v], m) κ := by
  have hb7 : 0 ≤ (m 99 (4 * i + 3)) ∧ (m 99 (4 * i + 3)) ≤ 9999 := hB 99 (4 * i + 3)
  have he0 : wr ((4 * (i : Int)) + 3) = ((4 * (i : Int)) + 3) := wr_id (by omega) (by omega)
  have he1 : ((4 * (i : Int)) + 3).toNat = 4 * i + 3 := by omega
  have he2 : wr v = v := wr_id (by omega) (by omega)
  have he3 : wr (m 99 (4 * i + 3)) = (m 99 (4 * i + 3)) := wr_id (by omega) (by omega)
  have key := @zb277_94r T hT D κ m p c a z h i v lo hlo
  simp only [he0, he1, he2, he3, Int.toNat_natCast] at key
  exact key
    (by refine ⟨?_, ?_⟩ <;> omega)
    k1
    k2
theorem zb34_0r (hT : zRules T) {D : Nat} {κ : Option zA → zM → Prop} {m : zM} {c : Nat} {l : Int} 
    (o1 : (0 ≤ wr (c : Int) ∧ wr (c : Int) < 8))
    (o2 : (0 ≤ wr (c : Int) ∧ wr (c : Int) < 8))
    (o3 : 0 < wr (l - wr ((m 21 ((wr (c : Int)).toNat)) + (m 22 ((wr (c : Int)).toNat)))) → (0 ≤ wr (c : Int) ∧ wr (c : Int) < 8))
    (o4 : 0 < wr (l - wr ((m 21 ((wr (c : Int)).toNat)) + (m 22 ((wr (c : Int)).toNat)))) → ¬ wr (m 21 ((wr (c : Int)).toNat)) = wr l → ¬ wr (wr ((m 21 ((wr (c : Int)).toNat)) + (m 22 ((wr (c : Int)).toNat)))) < wr l → False)
    (o5 : 0 < wr (l - wr ((m 21 ((wr (c : Int)).toNat)) + (m 22 ((wr (c : Int)).toNat)))) → ¬ wr (m 21 ((wr (c : Int)).toNat)) = wr l → wr (wr ((m 21 ((wr (c : Int)).toNat)) + (m 22 ((wr (c : Int)).toNat)))) < wr l → κ (some (zi (wr (wr ((wr (l - wr ((m 21 ((wr (c : Int)).toNat)) + (m 22 ((wr (c : Int)).toNat)))) * (m 24 1)) + (3 * (m 24 2))))))) m)
    (o6 : 0 < wr (l - wr ((m 21 ((wr (c : Int)).toNat)) + (m 22 ((wr (c : Int)).toNat)))) → wr (m 21 ((wr (c : Int)).toNat)) = wr l → κ (some (zi (wr (wr ((wr (l - wr ((m 21 ((wr (c : Int)).toNat)) + (m 22 ((wr (c : Int)).toNat)))) * (m 24 1)) + (0 * (m 24 2))))))) m)
    (o7 : ¬ 0 < wr (l - wr ((m 21 ((wr (c : Int)).toNat)) + (m 22 ((wr (c : Int)).toNat)))) → (0 ≤ wr (c : Int) ∧ wr (c : Int) < 8))
    (o8 : ¬ 0 < wr (l - wr ((m 21 ((wr (c : Int)).toNat)) + (m 22 ((wr (c : Int)).toNat)))) → ¬ wr (m 21 ((wr (c : Int)).toNat)) = wr l → ¬ wr (wr ((m 21 ((wr (c : Int)).toNat)) + (m 22 ((wr (c : Int)).toNat)))) < wr l → wr (l + wr (m 24 0)) < wr (wr ((m 21 ((wr (c : Int)).toNat)) + (m 22 ((wr (c : Int)).toNat)))) → κ (some (zi (wr (wr ((0 * (m 24 1)) + (2 * (m 24 2))))))) m)
    (o9 : ¬ 0 < wr (l - wr ((m 21 ((wr (c : Int)).toNat)) + (m 22 ((wr (c : Int)).toNat)))) → ¬ wr (m 21 ((wr (c : Int)).toNat)) = wr l → ¬ wr (wr ((m 21 ((wr (c : Int)).toNat)) + (m 22 ((wr (c : Int)).toNat)))) < wr l → ¬ wr (l + wr (m 24 0)) < wr (wr ((m 21 ((wr (c : Int)).toNat)) + (m 22 ((wr (c : Int)).toNat)))) → κ (some (zi (wr (wr ((0 * (m 24 1)) + (1 * (m 24 2))))))) m)
    (o10 : ¬ 0 < wr (l - wr ((m 21 ((wr (c : Int)).toNat)) + (m 22 ((wr (c : Int)).toNat)))) → ¬ wr (m 21 ((wr (c : Int)).toNat)) = wr l → wr (wr ((m 21 ((wr (c : Int)).toNat)) + (m 22 ((wr (c : Int)).toNat)))) < wr l → False)
    (o11 : ¬ 0 < wr (l - wr ((m 21 ((wr (c : Int)).toNat)) + (m 22 ((wr (c : Int)).toNat)))) → wr (m 21 ((wr (c : Int)).toNat)) = wr l → κ (some (zi (wr (wr ((0 * (m 24 1)) + (0 * (m 24 2))))))) m) :
    T (D + 3) 34 (0, [(0, zr 17), (1, zi (c : Int)), (2, zi l)], [], m) κ :=
  hT.1 [] 6 (D + 3) 34 _ κ (hT.1 [] 6 (D + 2) 28 _ _ (And.intro (o1) (hT.1 [] 6 (D + 2) 28 (10, [(0, zr 17), (1, zi (c : Int))], [zr 22, zi (m 21 ((wr (c : Int)).toNat))], m) _ (And.intro (o2) (hT.1 [] 6 (D + 3) 34 _ _ (hT.1 [] 6 (D + 3) 34 (11, [(0, zr 17), (1, zi (c : Int)), (2, zi l), (3, zi (wr ((m 21 ((wr (c : Int)).toNat)) + (m 22 ((wr (c : Int)).toNat)))))], [zi (l - wr ((m 21 ((wr (c : Int)).toNat)) + (m 22 ((wr (c : Int)).toNat)))), zi 0, zr 17], m) _ (hT.1 [] 6 (D + 2) 295 _ _ (And.intro (fun a1 => (hT.1 [] 6 (D + 3) 34 _ _ (And.intro (o3 a1) (hT.1 [] 6 (D + 3) 34 (22, [(0, zr 17), (1, zi (c : Int)), (2, zi l), (3, zi (wr ((m 21 ((wr (c : Int)).toNat)) + (m 22 ((wr (c : Int)).toNat)))))], [zi (wr ((m 21 ((wr (c : Int)).toNat)) + (m 22 ((wr (c : Int)).toNat)))), zi (m 21 ((wr (c : Int)).toNat)), zr 17, zi (wr (l - wr ((m 21 ((wr (c : Int)).toNat)) + (m 22 ((wr (c : Int)).toNat))))), zr 17], m) _ (hT.1 [] 6 (D + 2) 32 _ _ (And.intro (fun a3 => (And.intro (fun a5 => (o4 a1 a3 a5).elim) (fun a6 => (hT.1 [] 6 (D + 2) 32 (12, [(0, zr 17), (1, zi (m 21 ((wr (c : Int)).toNat))), (2, zi (wr ((m 21 ((wr (c : Int)).toNat)) + (m 22 ((wr (c : Int)).toNat))))), (3, zi l)], [], m) _ (hT.1 [] 6 (D + 3) 34 _ _ (hT.1 [] 6 (D + 2) 33 _ _ (And.intro (z_ixL rfl) (hT.1 [] 6 (D + 2) 33 (8, [(0, zr 17), (1, zi (wr (l - wr ((m 21 ((wr (c : Int)).toNat)) + (m 22 ((wr (c : Int)).toNat)))))), (2, zi 3)], [zi (wr (l - wr ((m 21 ((wr (c : Int)).toNat)) + (m 22 ((wr (c : Int)).toNat)))) * (m 24 1))], m) _ (And.intro (z_ixL rfl) (hT.1 [] 6 (D + 2) 33 (16, [(0, zr 17), (1, zi (wr (l - wr ((m 21 ((wr (c : Int)).toNat)) + (m 22 ((wr (c : Int)).toNat)))))), (2, zi 3)], [zi (3 * (m 24 2)), zi (wr (l - wr ((m 21 ((wr (c : Int)).toNat)) + (m 22 ((wr (c : Int)).toNat)))) * (m 24 1))], m) _ (hT.1 [] 6 (D + 3) 34 _ _ (o5 a1 a3 (Classical.byContradiction a6))))))))))))) (fun a4 => (hT.1 [] 6 (D + 3) 34 _ _ (hT.1 [] 6 (D + 2) 33 _ _ (And.intro (z_ixL rfl) (hT.1 [] 6 (D + 2) 33 (8, [(0, zr 17), (1, zi (wr (l - wr ((m 21 ((wr (c : Int)).toNat)) + (m 22 ((wr (c : Int)).toNat)))))), (2, zi 0)], [zi (wr (l - wr ((m 21 ((wr (c : Int)).toNat)) + (m 22 ((wr (c : Int)).toNat)))) * (m 24 1))], m) _ (And.intro (z_ixL rfl) (hT.1 [] 6 (D + 2) 33 (16, [(0, zr 17), (1, zi (wr (l - wr ((m 21 ((wr (c : Int)).toNat)) + (m 22 ((wr (c : Int)).toNat)))))), (2, zi 0)], [zi (0 * (m 24 2)), zi (wr (l - wr ((m 21 ((wr (c : Int)).toNat)) + (m 22 ((wr (c : Int)).toNat)))) * (m 24 1))], m) _ (hT.1 [] 6 (D + 3) 34 _ _ (o6 a1 (Classical.byContradiction a4)))))))))))))))) (fun a2 => (hT.1 [] 6 (D + 3) 34 _ _ (And.intro (o7 a2) (hT.1 [] 6 (D + 3) 34 (22, [(0, zr 17), (1, zi (c : Int)), (2, zi l), (3, zi (wr ((m 21 ((wr (c : Int)).toNat)) + (m 22 ((wr (c : Int)).toNat)))))], [zi (wr ((m 21 ((wr (c : Int)).toNat)) + (m 22 ((wr (c : Int)).toNat)))), zi (m 21 ((wr (c : Int)).toNat)), zr 17, zi 0, zr 17], m) _ (hT.1 [] 6 (D + 2) 32 _ _ (And.intro (fun a7 => (And.intro (fun a9 => (hT.1 [] 6 (D + 2) 32 (14, [(0, zr 17), (1, zi (m 21 ((wr (c : Int)).toNat))), (2, zi (wr ((m 21 ((wr (c : Int)).toNat)) + (m 22 ((wr (c : Int)).toNat))))), (3, zi l)], [], m) _ (hT.1 [] 6 (D + 1) 27 _ _ (And.intro (z_ixL rfl) (hT.1 [] 6 (D + 2) 32 _ _ (And.intro (fun a11 => (hT.1 [] 6 (D + 3) 34 _ _ (hT.1 [] 6 (D + 2) 33 _ _ (And.intro (z_ixL rfl) (hT.1 [] 6 (D + 2) 33 (8, [(0, zr 17), (1, zi 0), (2, zi 2)], [zi (0 * (m 24 1))], m) _ (And.intro (z_ixL rfl) (hT.1 [] 6 (D + 2) 33 (16, [(0, zr 17), (1, zi 0), (2, zi 2)], [zi (2 * (m 24 2)), zi (0 * (m 24 1))], m) _ (hT.1 [] 6 (D + 3) 34 _ _ (o8 a2 a7 a9 a11))))))))) (fun a12 => (hT.1 [] 6 (D + 3) 34 _ _ (hT.1 [] 6 (D + 2) 33 _ _ (And.intro (z_ixL rfl) (hT.1 [] 6 (D + 2) 33 (8, [(0, zr 17), (1, zi 0), (2, zi 1)], [zi (0 * (m 24 1))], m) _ (And.intro (z_ixL rfl) (hT.1 [] 6 (D + 2) 33 (16, [(0, zr 17), (1, zi 0), (2, zi 1)], [zi (1 * (m 24 2)), zi (0 * (m 24 1))], m) _ (hT.1 [] 6 (D + 3) 34 _ _ (o9 a2 a7 a9 a12))))))))))))))) (fun a10 => (o10 a2 a7 (Classical.byContradiction a10)).elim))) (fun a8 => (hT.1 [] 6 (D + 3) 34 _ _ (hT.1 [] 6 (D + 2) 33 _ _ (And.intro (z_ixL rfl) (hT.1 [] 6 (D + 2) 33 (8, [(0, zr 17), (1, zi 0), (2, zi 0)], [zi (0 * (m 24 1))], m) _ (And.intro (z_ixL rfl) (hT.1 [] 6 (D + 2) 33 (16, [(0, zr 17), (1, zi 0), (2, zi 0)], [zi (0 * (m 24 2)), zi (0 * (m 24 1))], m) _ (hT.1 [] 6 (D + 3) 34 _ _ (o11 a2 (Classical.byContradiction a8))))))))))))))))))))))))
theorem zb34_0 (hT : zRules T) {D : Nat} {κ : Option zA → zM → Prop} {m : zM} {c : Nat} {l : Int}  (hB : zB m) (h_c : c ≤ 7) (h_l : 0 ≤ l ∧ l ≤ 99) 
    (k1 : 0 < (l - ((m 21 c) + (m 22 c))) → ¬ (m 21 c) = l → κ (some (zi (wr (((l - ((m 21 c) + (m 22 c))) * (m 24 1)) + (3 * (m 24 2)))))) m)
    (k2 : 0 < (l - ((m 21 c) + (m 22 c))) → (m 21 c) = l → κ (some (zi (wr (((l - ((m 21 c) + (m 22 c))) * (m 24 1)) + (0 * (m 24 2)))))) m)
    (k3 : ¬ 0 < (l - ((m 21 c) + (m 22 c))) → ¬ (m 21 c) = l → (l + (m 24 0)) < ((m 21 c) + (m 22 c)) → κ (some (zi ((0 * (m 24 1)) + (2 * (m 24 2))))) m)
    (k4 : ¬ 0 < (l - ((m 21 c) + (m 22 c))) → ¬ (m 21 c) = l → ¬ (l + (m 24 0)) < ((m 21 c) + (m 22 c)) → κ (some (zi ((0 * (m 24 1)) + (1 * (m 24 2))))) m)
    (k5 : ¬ 0 < (l - ((m 21 c) + (m 22 c))) → (m 21 c) = l → κ (some (zi ((0 * (m 24 1)) + (0 * (m 24 2))))) m) :
    T (D + 3) 34 (0, [(0, zr 17), (1, zi (c : Int)), (2, zi l)], [], m) κ := by
  have hb2 : (-1) ≤ (m 21 c) ∧ (m 21 c) ≤ 99 := hB 21 c
  have hb3 : (-1) ≤ (m 22 c) ∧ (m 22 c) ≤ 9 := hB 22 c
  have hb4 : 0 ≤ (m 24 1) ∧ (m 24 1) ≤ 9 := hB 24 1
  have hb5 : 0 ≤ (m 24 2) ∧ (m 24 2) ≤ 9 := hB 24 2
  have hb6 : (-2147483648) ≤ wr (((l - ((m 21 c) + (m 22 c))) * (m 24 1)) + (0 * (m 24 2))) ∧ wr (((l - ((m 21 c) + (m 22 c))) * (m 24 1)) + (0 * (m 24 2))) ≤ 2147483647 := wrB (((l - ((m 21 c) + (m 22 c))) * (m 24 1)) + (0 * (m 24 2)))
  have hb7 : (-2147483648) ≤ wr (((l - ((m 21 c) + (m 22 c))) * (m 24 1)) + (3 * (m 24 2))) ∧ wr (((l - ((m 21 c) + (m 22 c))) * (m 24 1)) + (3 * (m 24 2))) ≤ 2147483647 := wrB (((l - ((m 21 c) + (m 22 c))) * (m 24 1)) + (3 * (m 24 2)))
  have hb8 : 0 ≤ (m 24 0) ∧ (m 24 0) ≤ 9 := hB 24 0
  have he0 : wr (c : Int) = (c : Int) := wr_id (by omega) (by omega)
  have he1 : (c : Int).toNat = c := by omega
  have he2 : wr ((m 21 c) + (m 22 c)) = ((m 21 c) + (m 22 c)) := wr_id (by omega) (by omega)
  have he3 : wr (l - ((m 21 c) + (m 22 c))) = (l - ((m 21 c) + (m 22 c))) := wr_id (by omega) (by omega)
  have he4 : wr (m 21 c) = (m 21 c) := wr_id (by omega) (by omega)
  have he5 : wr l = l := wr_id (by omega) (by omega)
  have he6 : wr (wr (((l - ((m 21 c) + (m 22 c))) * (m 24 1)) + (0 * (m 24 2)))) = wr (((l - ((m 21 c) + (m 22 c))) * (m 24 1)) + (0 * (m 24 2))) := wr_id (by omega) (by omega)
  have he7 : wr (wr (((l - ((m 21 c) + (m 22 c))) * (m 24 1)) + (3 * (m 24 2)))) = wr (((l - ((m 21 c) + (m 22 c))) * (m 24 1)) + (3 * (m 24 2))) := wr_id (by omega) (by omega)
  have he8 : wr ((0 * (m 24 1)) + (0 * (m 24 2))) = ((0 * (m 24 1)) + (0 * (m 24 2))) := wr_id (by omega) (by omega)
  have he9 : wr (m 24 0) = (m 24 0) := wr_id (by omega) (by omega)
  have he10 : wr (l + (m 24 0)) = (l + (m 24 0)) := wr_id (by omega) (by omega)
  have he11 : wr ((0 * (m 24 1)) + (2 * (m 24 2))) = ((0 * (m 24 1)) + (2 * (m 24 2))) := wr_id (by omega) (by omega)
  have he12 : wr ((0 * (m 24 1)) + (1 * (m 24 2))) = ((0 * (m 24 1)) + (1 * (m 24 2))) := wr_id (by omega) (by omega)
  have key := @zb34_0r T hT D κ m c l
  simp only [he0, he1, he2, he3, he4, he5, he6, he7, he8, he9, he10, he11, he12, Int.toNat_natCast] at key
  exact key
    (by refine ⟨?_, ?_⟩ <;> omega)
    (by refine ⟨?_, ?_⟩ <;> omega)
    (fun x0 => by refine ⟨?_, ?_⟩ <;> omega)
    (fun x0 x1 x2 => by omega)
    (fun x0 x1 x2 => k1 x0 x1)
    k2
    (fun x0 => by refine ⟨?_, ?_⟩ <;> omega)
    (fun x0 x1 x2 x3 => k3 x0 x1 x3)
    (fun x0 x1 x2 x3 => k4 x0 x1 x3)
    (fun x0 x1 x2 => by omega)
    k5
theorem zb143_0r (hT : zRules T) {D : Nat} {κ : Option zA → zM → Prop} {m : zM} {p : Int} 
    (o1 : wr p < 0 → κ (some (zi (-1))) m)
    (o2 : ¬ wr p < 0 → ¬ wr p < wr (m 17 0) → κ (some (zi (-1))) m)
    (o3 : ¬ wr p < 0 → wr p < wr (m 17 0) → T (D + 4) 171 (0, [(0, zr 1), (1, zi p)], [], m) (fun r m1 => T (D + 5) 143 (18, [(0, zr 1), (1, zi p)], r.toList ++ [], m1) κ)) :
    T (D + 5) 143 (0, [(0, zr 1), (1, zi p)], [], m) κ :=
  hT.1 [(28, [0, 1, 2, 3, 4, 5])] 6 (D + 5) 143 _ κ (hT.1 [] 6 (D + 4) 25 _ _ (And.intro (fun a1 => (And.intro (z_b01L rfl) (hT.1 [(28, [0, 1, 2, 3, 4, 5])] 6 (D + 5) 143 _ _ (And.intro (fun a3 => (z_litF a3 rfl).elim) (fun _ => (o1 a1)))))) (fun a2 => (And.intro (fun a4 => (hT.1 [] 6 (D + 4) 25 (16, [(0, zr 17), (1, zi p)], [], m) _ (And.intro (z_b01L rfl) (hT.1 [(28, [0, 1, 2, 3, 4, 5])] 6 (D + 5) 143 _ _ (And.intro (fun a6 => (z_litF a6 rfl).elim) (fun _ => (o2 a2 a4))))))) (fun a5 => (hT.1 [] 6 (D + 4) 25 (12, [(0, zr 17), (1, zi p)], [], m) _ (And.intro (z_b01L rfl) (hT.1 [(28, [0, 1, 2, 3, 4, 5])] 6 (D + 5) 143 _ _ (And.intro (fun _ => (o3 a2 (Classical.byContradiction a5))) (fun a7 => (a7 (z_litT rfl)).elim))))))))))
theorem zb143_0 (hT : zRules T) {D : Nat} {κ : Option zA → zM → Prop} {m : zM} {p : Int}  (hB : zB m) (h_p : (-2147483648) ≤ p ∧ p ≤ 2147483647) 
    (k1 : p < 0 → κ (some (zi (-1))) m)
    (k2 : ¬ p < 0 → ¬ p < (m 17 0) → κ (some (zi (-1))) m)
    (k3 : ¬ p < 0 → p < (m 17 0) → T (D + 4) 171 (0, [(0, zr 1), (1, zi p)], [], m) (fun r m1 => T (D + 5) 143 (18, [(0, zr 1), (1, zi p)], r.toList ++ [], m1) κ)) :
    T (D + 5) 143 (0, [(0, zr 1), (1, zi p)], [], m) κ := by
  have hb1 : 0 ≤ (m 17 0) ∧ (m 17 0) ≤ 6 := hB 17 0
  have he0 : wr p = p := wr_id (by omega) (by omega)
  have he1 : wr (m 17 0) = (m 17 0) := wr_id (by omega) (by omega)
  have key := @zb143_0r T hT D κ m p
  simp only [he0, he1, Int.toNat_natCast] at key
  exact key
    k1
    k2
    k3
theorem zb143_18r (hT : zRules T) {D : Nat} {κ : Option zA → zM → Prop} {m : zM} {p : Nat} {v : Int} {lo : zL} (hlo : z_keep [0, 1] lo = [(0, zr 1), (1, zi (p : Int))]) 
    (o1 : T (D + 5) 143 (28, [(0, zr 1), (1, zi (p : Int)), (2, zi v), (3, zi (-2)), (4, zi 0), (5, zi 0)], [], m) κ) :
    T (D + 5) 143 (18, lo, [zi v], m) κ :=
  zkeep hT hlo (hT.1 [(28, [0, 1, 2, 3, 4, 5])] 6 (D + 5) 143 _ κ (hT.1 [(28, [0, 1, 2, 3, 4, 5])] 6 (D + 5) 143 (26, [(0, zr 1), (1, zi (p : Int)), (2, zi v), (3, zi (-2)), (4, zi 0)], [zi 0], m) _ (o1)))
theorem zb143_18 (hT : zRules T) {D : Nat} {κ : Option zA → zM → Prop} {m : zM} {p : Nat} {v : Int} {lo : zL} (hlo : z_keep [0, 1] lo = [(0, zr 1), (1, zi (p : Int))])  (hB : zB m) (h_p : p ≤ 5) (h_v : 0 ≤ v ∧ v ≤ 99) 
    (k1 : T (D + 5) 143 (28, [(0, zr 1), (1, zi (p : Int)), (2, zi v), (3, zi (-2)), (4, zi 0), (5, zi 0)], [], m) κ) :
    T (D + 5) 143 (18, lo, [zi v], m) κ := by
  exact zb143_18r hT hlo
    k1
theorem zb143_28r (hT : zRules T) {D : Nat} {κ : Option zA → zM → Prop} {m : zM} {p : Nat} {l : Int} {f : Int} {a : Int} {c : Nat} {lo : zL} (hlo : z_keep [0, 1, 2, 3, 4, 5] lo = [(0, zr 1), (1, zi (p : Int)), (2, zi l), (3, zi f), (4, zi a), (5, zi (c : Int))]) 
    (o1 : ¬ wr (c : Int) < wr (m 17 1) → wr f < 0 → κ (some (zi (wr f))) m)
    (o2 : ¬ wr (c : Int) < wr (m 17 1) → ¬ wr f < 0 → κ (some (zi (wr f))) (zu (zu m 72 1 1) 73 0 a))
    (o3 : wr (c : Int) < wr (m 17 1) → T (D + 4) 29 (0, [(0, zr 17), (1, zi (c : Int))], [], m) (fun r m1 => T (D + 5) 143 (49, [(0, zr 1), (1, zi (p : Int)), (2, zi l), (3, zi f), (4, zi a), (5, zi (c : Int))], r.toList ++ [], m1) κ)) :
    T (D + 5) 143 (28, lo, [], m) κ :=
  zkeep hT hlo (hT.1 [(28, [0, 1, 2, 3, 4, 5])] 6 (D + 5) 143 _ κ (And.intro (fun a1 => (hT.1 [(28, [0, 1, 2, 3, 4, 5])] 6 (D + 5) 143 (100, [(0, zr 1), (1, zi (p : Int)), (2, zi l), (3, zi f), (4, zi a), (5, zi (c : Int))], [zi f], m) _ (And.intro (fun a3 => (o1 a1 a3)) (fun a4 => (hT.1 [] 6 (D + 4) 45 _ _ (And.intro trivial (hT.1 [] 6 (D + 4) 45 (10, [(0, zr 72), (1, zi a)], [zi 0, zr 73], (zu m 72 1 1)) _ (And.intro (And.intro (z_ixL rfl) trivial) (hT.1 [(28, [0, 1, 2, 3, 4, 5])] 6 (D + 5) 143 _ _ (o2 a1 a4)))))))))) (fun a2 => (hT.1 [(28, [0, 1, 2, 3, 4, 5])] 6 (D + 5) 143 (41, [(0, zr 1), (1, zi (p : Int)), (2, zi l), (3, zi f), (4, zi a), (5, zi (c : Int))], [zr 1], m) _ (o3 (Classical.byContradiction a2))))))
theorem zb143_28 (hT : zRules T) {D : Nat} {κ : Option zA → zM → Prop} {m : zM} {p : Nat} {l : Int} {f : Int} {a : Int} {c : Nat} {lo : zL} (hlo : z_keep [0, 1, 2, 3, 4, 5] lo = [(0, zr 1), (1, zi (p : Int)), (2, zi l), (3, zi f), (4, zi a), (5, zi (c : Int))])  (hB : zB m) (h_p : p ≤ 5) (h_l : 0 ≤ l ∧ l ≤ 99) (h_f : (-2) ≤ f ∧ f ≤ 7) (h_a : 0 ≤ a ∧ a ≤ 1000000) (h_c : c ≤ 8) 
    (k1 : ¬ (c : Int) < (m 17 1) → f < 0 → κ (some (zi f)) m)
    (k2 : ¬ (c : Int) < (m 17 1) → ¬ f < 0 → zB (zu (zu m 72 1 1) 73 0 a) → κ (some (zi f)) (zu (zu m 72 1 1) 73 0 a))
    (k3 : (c : Int) < (m 17 1) → T (D + 4) 29 (0, [(0, zr 17), (1, zi (c : Int))], [], m) (fun r m1 => T (D + 5) 143 (49, [(0, zr 1), (1, zi (p : Int)), (2, zi l), (3, zi f), (4, zi a), (5, zi (c : Int))], r.toList ++ [], m1) κ)) :
    T (D + 5) 143 (28, lo, [], m) κ := by
  have hb5 : 0 ≤ (m 17 1) ∧ (m 17 1) ≤ 8 := hB 17 1
  have he0 : wr (c : Int) = (c : Int) := wr_id (by omega) (by omega)
  have he1 : wr (m 17 1) = (m 17 1) := wr_id (by omega) (by omega)
  have he2 : wr f = f := wr_id (by omega) (by omega)
  have key := @zb143_28r T hT D κ m p l f a c lo hlo
  simp only [he0, he1, he2, Int.toNat_natCast] at key
  exact key
    k1
    (fun x0 x1 => k2 x0 x1 (zB_u (zB_u hB (show 0 ≤ 1 ∧ 1 ≤ 26 from ⟨by omega, by omega⟩)) trivial))
    k3
theorem zb143_49r (hT : zRules T) {D : Nat} {κ : Option zA → zM → Prop} {m : zM} {p : Nat} {l : Int} {f : Int} {a : Int} {c : Nat} {w : Int} {lo : zL} (hlo : z_keep [0, 1, 2, 3, 4, 5] lo = [(0, zr 1), (1, zi (p : Int)), (2, zi l), (3, zi f), (4, zi a), (5, zi (c : Int))]) 
    (o1 : T (D + 4) 34 (0, [(0, zr 17), (1, zi (c : Int)), (2, zi l)], [], m) (fun r m1 => T (D + 5) 143 (61, [(0, zr 1), (1, zi (p : Int)), (2, zi l), (3, zi f), (4, zi a), (5, zi (c : Int)), (6, zi w)], r.toList ++ [], m1) κ)) :
    T (D + 5) 143 (49, lo, [zi w], m) κ :=
  zkeep hT hlo (hT.1 [(28, [0, 1, 2, 3, 4, 5])] 6 (D + 5) 143 _ κ (o1))
theorem zb143_49 (hT : zRules T) {D : Nat} {κ : Option zA → zM → Prop} {m : zM} {p : Nat} {l : Int} {f : Int} {a : Int} {c : Nat} {w : Int} {lo : zL} (hlo : z_keep [0, 1, 2, 3, 4, 5] lo = [(0, zr 1), (1, zi (p : Int)), (2, zi l), (3, zi f), (4, zi a), (5, zi (c : Int))])  (hB : zB m) (h_p : p ≤ 5) (h_l : 0 ≤ l ∧ l ≤ 99) (h_f : (-2) ≤ f ∧ f ≤ 7) (h_a : 0 ≤ a ∧ a ≤ 1000000) (h_c : c ≤ 7) (h_w : (-1) ≤ w ∧ w ≤ 5) 
    (k1 : T (D + 4) 34 (0, [(0, zr 17), (1, zi (c : Int)), (2, zi l)], [], m) (fun r m1 => T (D + 5) 143 (61, [(0, zr 1), (1, zi (p : Int)), (2, zi l), (3, zi f), (4, zi a), (5, zi (c : Int)), (6, zi w)], r.toList ++ [], m1) κ)) :
    T (D + 5) 143 (49, lo, [zi w], m) κ := by
  exact zb143_49r hT hlo
    k1
theorem zb143_61r (hT : zRules T) {D : Nat} {κ : Option zA → zM → Prop} {m : zM} {p : Nat} {l : Int} {f : Int} {a : Int} {c : Nat} {w : Int} {v : Int} {lo : zL} (hlo : z_keep [0, 1, 2, 3, 4, 5, 6] lo = [(0, zr 1), (1, zi (p : Int)), (2, zi l), (3, zi f), (4, zi a), (5, zi (c : Int)), (6, zi w)]) 
    (o1 : wr w = (-1) → wr f < 0 → T (D + 5) 143 (28, [(0, zr 1), (1, zi (p : Int)), (2, zi l), (3, zi (c : Int)), (4, zi v), (5, zi ((c : Int) + 1))], [], m) κ)
    (o2 : wr w = (-1) → ¬ wr f < 0 → ¬ wr v < wr a → T (D + 5) 143 (28, [(0, zr 1), (1, zi (p : Int)), (2, zi l), (3, zi f), (4, zi a), (5, zi ((c : Int) + 1))], [], m) κ)
    (o3 : wr w = (-1) → ¬ wr f < 0 → wr v < wr a → T (D + 5) 143 (28, [(0, zr 1), (1, zi (p : Int)), (2, zi l), (3, zi (c : Int)), (4, zi v), (5, zi ((c : Int) + 1))], [], m) κ)
    (o4 : ¬ wr w = (-1) → ¬ wr w = wr (p : Int) → T (D + 5) 143 (28, [(0, zr 1), (1, zi (p : Int)), (2, zi l), (3, zi f), (4, zi a), (5, zi ((c : Int) + 1))], [], m) κ)
    (o5 : ¬ wr w = (-1) → wr w = wr (p : Int) → wr f < 0 → T (D + 5) 143 (28, [(0, zr 1), (1, zi (p : Int)), (2, zi l), (3, zi (c : Int)), (4, zi v), (5, zi ((c : Int) + 1))], [], m) κ)
    (o6 : ¬ wr w = (-1) → wr w = wr (p : Int) → ¬ wr f < 0 → ¬ wr v < wr a → T (D + 5) 143 (28, [(0, zr 1), (1, zi (p : Int)), (2, zi l), (3, zi f), (4, zi a), (5, zi ((c : Int) + 1))], [], m) κ)
    (o7 : ¬ wr w = (-1) → wr w = wr (p : Int) → ¬ wr f < 0 → wr v < wr a → T (D + 5) 143 (28, [(0, zr 1), (1, zi (p : Int)), (2, zi l), (3, zi (c : Int)), (4, zi v), (5, zi ((c : Int) + 1))], [], m) κ) :
    T (D + 5) 143 (61, lo, [zi v], m) κ :=
  zkeep hT hlo (hT.1 [(28, [0, 1, 2, 3, 4, 5])] 6 (D + 5) 143 _ κ (And.intro (fun a1 => (And.intro (fun a3 => (hT.1 [(28, [0, 1, 2, 3, 4, 5])] 6 (D + 5) 143 (86, [(0, zr 1), (1, zi (p : Int)), (2, zi l), (3, zi f), (4, zi a), (5, zi (c : Int)), (6, zi w), (7, zi v)], [], m) _ (o1 a1 a3))) (fun a4 => (hT.1 [(28, [0, 1, 2, 3, 4, 5])] 6 (D + 5) 143 (79, [(0, zr 1), (1, zi (p : Int)), (2, zi l), (3, zi f), (4, zi a), (5, zi (c : Int)), (6, zi w), (7, zi v)], [], m) _ (And.intro (fun a5 => (o2 a1 a4 a5)) (fun a6 => (hT.1 [(28, [0, 1, 2, 3, 4, 5])] 6 (D + 5) 143 (91, [(0, zr 1), (1, zi (p : Int)), (2, zi l), (3, zi (c : Int)), (4, zi a), (5, zi (c : Int)), (6, zi w), (7, zi v)], [zi v], m) _ (o3 a1 a4 (Classical.byContradiction a6))))))))) (fun a2 => (hT.1 [(28, [0, 1, 2, 3, 4, 5])] 6 (D + 5) 143 (72, [(0, zr 1), (1, zi (p : Int)), (2, zi l), (3, zi f), (4, zi a), (5, zi (c : Int)), (6, zi w), (7, zi v)], [zi (p : Int), zi w], m) _ (And.intro (fun a7 => (o4 a2 a7)) (fun a8 => (And.intro (fun a9 => (hT.1 [(28, [0, 1, 2, 3, 4, 5])] 6 (D + 5) 143 (91, [(0, zr 1), (1, zi (p : Int)), (2, zi l), (3, zi (c : Int)), (4, zi a), (5, zi (c : Int)), (6, zi w), (7, zi v)], [zi v], m) _ (o5 a2 (Classical.byContradiction a8) a9))) (fun a10 => (And.intro (fun a11 => (hT.1 [(28, [0, 1, 2, 3, 4, 5])] 6 (D + 5) 143 (93, [(0, zr 1), (1, zi (p : Int)), (2, zi l), (3, zi f), (4, zi a), (5, zi (c : Int)), (6, zi w), (7, zi v)], [], m) _ (o6 a2 (Classical.byContradiction a8) a10 a11))) (fun a12 => (hT.1 [(28, [0, 1, 2, 3, 4, 5])] 6 (D + 5) 143 (86, [(0, zr 1), (1, zi (p : Int)), (2, zi l), (3, zi f), (4, zi a), (5, zi (c : Int)), (6, zi w), (7, zi v)], [], m) _ (o7 a2 (Classical.byContradiction a8) a10 (Classical.byContradiction a12)))))))))))))
theorem zb143_61 (hT : zRules T) {D : Nat} {κ : Option zA → zM → Prop} {m : zM} {p : Nat} {l : Int} {f : Int} {a : Int} {c : Nat} {w : Int} {v : Int} {lo : zL} (hlo : z_keep [0, 1, 2, 3, 4, 5, 6] lo = [(0, zr 1), (1, zi (p : Int)), (2, zi l), (3, zi f), (4, zi a), (5, zi (c : Int)), (6, zi w)])  (hB : zB m) (h_p : p ≤ 5) (h_l : 0 ≤ l ∧ l ≤ 99) (h_f : (-2) ≤ f ∧ f ≤ 7) (h_a : 0 ≤ a ∧ a ≤ 1000000) (h_c : c ≤ 7) (h_w : (-1) ≤ w ∧ w ≤ 5) (h_v : 0 ≤ v ∧ v ≤ 1000000) 
    (k1 : w = (-1) → f < 0 → T (D + 5) 143 (28, [(0, zr 1), (1, zi (p : Int)), (2, zi l), (3, zi (c : Int)), (4, zi v), (5, zi ((c : Int) + 1))], [], m) κ)
    (k2 : w = (-1) → ¬ f < 0 → ¬ v < a → T (D + 5) 143 (28, [(0, zr 1), (1, zi (p : Int)), (2, zi l), (3, zi f), (4, zi a), (5, zi ((c : Int) + 1))], [], m) κ)
    (k3 : w = (-1) → ¬ f < 0 → v < a → T (D + 5) 143 (28, [(0, zr 1), (1, zi (p : Int)), (2, zi l), (3, zi (c : Int)), (4, zi v), (5, zi ((c : Int) + 1))], [], m) κ)
    (k4 : ¬ w = (-1) → ¬ w = (p : Int) → T (D + 5) 143 (28, [(0, zr 1), (1, zi (p : Int)), (2, zi l), (3, zi f), (4, zi a), (5, zi ((c : Int) + 1))], [], m) κ)
    (k5 : ¬ w = (-1) → w = (p : Int) → f < 0 → T (D + 5) 143 (28, [(0, zr 1), (1, zi (p : Int)), (2, zi l), (3, zi (c : Int)), (4, zi v), (5, zi ((c : Int) + 1))], [], m) κ)
    (k6 : ¬ w = (-1) → w = (p : Int) → ¬ f < 0 → ¬ v < a → T (D + 5) 143 (28, [(0, zr 1), (1, zi (p : Int)), (2, zi l), (3, zi f), (4, zi a), (5, zi ((c : Int) + 1))], [], m) κ)
    (k7 : ¬ w = (-1) → w = (p : Int) → ¬ f < 0 → v < a → T (D + 5) 143 (28, [(0, zr 1), (1, zi (p : Int)), (2, zi l), (3, zi (c : Int)), (4, zi v), (5, zi ((c : Int) + 1))], [], m) κ) :
    T (D + 5) 143 (61, lo, [zi v], m) κ := by
  have he0 : wr w = w := wr_id (by omega) (by omega)
  have he1 : wr f = f := wr_id (by omega) (by omega)
  have he2 : wr v = v := wr_id (by omega) (by omega)
  have he3 : wr a = a := wr_id (by omega) (by omega)
  have he4 : wr (p : Int) = (p : Int) := wr_id (by omega) (by omega)
  have key := @zb143_61r T hT D κ m p l f a c w v lo hlo
  simp only [he0, he1, he2, he3, he4, Int.toNat_natCast] at key
  exact key
    k1
    k2
    k3
    k4
    k5
    k6
    k7
theorem zb262_0r (hT : zRules T) {D : Nat} {κ : Option zA → zM → Prop} {m : zM} {p : Int} 
    (o1 : wr p < 0 → κ (some (zi (-1))) (zu m 74 12 0))
    (o2 : ¬ wr p < 0 → wr ((m 74 4) - 1) < wr p → κ (some (zi (-1))) (zu m 74 12 0))
    (o3 : ¬ wr p < 0 → ¬ wr ((m 74 4) - 1) < wr p → T (D + 5) 262 (25, [(0, zr 74), (1, zi p), (2, zi (-2)), (3, zi 100000000), (4, zi 0)], [], (zu m 74 12 0)) κ) :
    T (D + 5) 262 (0, [(0, zr 74), (1, zi p)], [], m) κ :=
  hT.1 [(25, [0, 1, 2, 3, 4])] 6 (D + 5) 262 _ κ (And.intro trivial (hT.1 [] 6 (D + 4) 190 _ _ (hT.1 [] 6 (D + 4) 190 (8, [(0, zr 74), (1, zi p)], [zi ((m 74 4) - 1), zi 0, zi p], (zu m 74 12 0)) _ (hT.1 [] 6 (D + 3) 186 _ _ (And.intro (fun a1 => (And.intro (z_b01L rfl) (hT.1 [] 6 (D + 4) 190 _ _ (And.intro (z_b01L rfl) (hT.1 [(25, [0, 1, 2, 3, 4])] 6 (D + 5) 262 _ _ (And.intro (fun a3 => (z_litF a3 rfl).elim) (fun _ => (o1 a1)))))))) (fun a2 => (And.intro (fun a4 => (hT.1 [] 6 (D + 3) 186 (14, [(0, zi p), (1, zi 0), (2, zi ((m 74 4) - 1))], [], (zu m 74 12 0)) _ (And.intro (z_b01L rfl) (hT.1 [] 6 (D + 4) 190 _ _ (And.intro (z_b01L rfl) (hT.1 [(25, [0, 1, 2, 3, 4])] 6 (D + 5) 262 _ _ (And.intro (fun a6 => (z_litF a6 rfl).elim) (fun _ => (o2 a2 a4))))))))) (fun a5 => (hT.1 [] 6 (D + 3) 186 (10, [(0, zi p), (1, zi 0), (2, zi ((m 74 4) - 1))], [], (zu m 74 12 0)) _ (And.intro (z_b01L rfl) (hT.1 [] 6 (D + 4) 190 _ _ (And.intro (z_b01L rfl) (hT.1 [(25, [0, 1, 2, 3, 4])] 6 (D + 5) 262 _ _ (And.intro (fun _ => (hT.1 [(25, [0, 1, 2, 3, 4])] 6 (D + 5) 262 (23, [(0, zr 74), (1, zi p), (2, zi (-2)), (3, zi 100000000)], [zi 0], (zu m 74 12 0)) _ (o3 a2 a5))) (fun a7 => (a7 (z_litT rfl)).elim)))))))))))))))
theorem zb262_0 (hT : zRules T) {D : Nat} {κ : Option zA → zM → Prop} {m : zM} {p : Int}  (hB : zB m) (h_p : (-2147483648) ≤ p ∧ p ≤ 2147483647) 
    (k1 : p < 0 → zB (zu m 74 12 0) → κ (some (zi (-1))) (zu m 74 12 0))
    (k2 : ¬ p < 0 → ((m 74 4) - 1) < p → zB (zu m 74 12 0) → κ (some (zi (-1))) (zu m 74 12 0))
    (k3 : ¬ p < 0 → ¬ ((m 74 4) - 1) < p → zB (zu m 74 12 0) → T (D + 5) 262 (25, [(0, zr 74), (1, zi p), (2, zi (-2)), (3, zi 100000000), (4, zi 0)], [], (zu m 74 12 0)) κ) :
    T (D + 5) 262 (0, [(0, zr 74), (1, zi p)], [], m) κ := by
  have hb1 : 0 ≤ (m 74 4) ∧ (m 74 4) ≤ 6 := hB 74 4
  have he0 : wr p = p := wr_id (by omega) (by omega)
  have he1 : wr ((m 74 4) - 1) = ((m 74 4) - 1) := wr_id (by omega) (by omega)
  have key := @zb262_0r T hT D κ m p
  simp only [he0, he1, Int.toNat_natCast] at key
  exact key
    (fun x0 => k1 x0 (zB_u hB trivial))
    (fun x0 x1 => k2 x0 x1 (zB_u hB trivial))
    (fun x0 x1 => k3 x0 x1 (zB_u hB trivial))
theorem zb262_25r (hT : zRules T) {D : Nat} {κ : Option zA → zM → Prop} {m : zM} {p : Nat} {f : Int} {a : Int} {c : Nat} {lo : zL} (hlo : z_keep [0, 1, 2, 3, 4] lo = [(0, zr 74), (1, zi (p : Int)), (2, zi f), (3, zi a), (4, zi (c : Int))]) 
    (o1 : ¬ wr (c : Int) < wr (m 74 6) → ¬ wr f < 0 → κ (some (zi (wr f))) (zu (zu (zu m 74 11 0) 81 0 a) 74 11 1))
    (o2 : ¬ wr (c : Int) < wr (m 74 6) → wr f < 0 → κ (some (zi (-2))) m)
    (o3 : wr (c : Int) < wr (m 74 6) → T (D + 4) 217 (0, [(0, zr 74), (1, zr 75), (2, zi (c : Int))], [], m) (fun r m1 => T (D + 5) 262 (44, [(0, zr 74), (1, zi (p : Int)), (2, zi f), (3, zi a), (4, zi (c : Int))], r.toList ++ [], m1) κ)) :
    T (D + 5) 262 (25, lo, [], m) κ :=
  zkeep hT hlo (hT.1 [(25, [0, 1, 2, 3, 4])] 6 (D + 5) 262 _ κ (And.intro (fun a1 => (And.intro (fun a3 => (hT.1 [(25, [0, 1, 2, 3, 4])] 6 (D + 5) 262 (98, [(0, zr 74), (1, zi (p : Int)), (2, zi f), (3, zi a), (4, zi (c : Int))], [], m) _ (And.intro trivial (hT.1 [] 6 (D + 4) 189 _ _ (And.intro (And.intro (z_ixL rfl) trivial) (hT.1 [] 6 (D + 4) 189 (10, [(0, zr 74), (1, zi a)], [], (zu (zu m 74 11 0) 81 0 a)) _ (And.intro trivial (hT.1 [] 6 (D + 4) 189 (20, [(0, zr 74), (1, zi a)], [], (zu (zu (zu m 74 11 0) 81 0 a) 74 11 1)) _ (hT.1 [(25, [0, 1, 2, 3, 4])] 6 (D + 5) 262 _ _ (o1 a1 a3)))))))))) (fun a4 => (hT.1 [(25, [0, 1, 2, 3, 4])] 6 (D + 5) 262 (95, [(0, zr 74), (1, zi (p : Int)), (2, zi f), (3, zi a), (4, zi (c : Int))], [], m) _ (o2 a1 (Classical.byContradiction a4)))))) (fun a2 => (hT.1 [(25, [0, 1, 2, 3, 4])] 6 (D + 5) 262 (36, [(0, zr 74), (1, zi (p : Int)), (2, zi f), (3, zi a), (4, zi (c : Int))], [zr 74, zr 74], m) _ (o3 (Classical.byContradiction a2))))))
theorem zb262_25 (hT : zRules T) {D : Nat} {κ : Option zA → zM → Prop} {m : zM} {p : Nat} {f : Int} {a : Int} {c : Nat} {lo : zL} (hlo : z_keep [0, 1, 2, 3, 4] lo = [(0, zr 74), (1, zi (p : Int)), (2, zi f), (3, zi a), (4, zi (c : Int))])  (hB : zB m) (h_p : p ≤ 5) (h_f : (-2) ≤ f ∧ f ≤ 7) (h_a : 0 ≤ a ∧ a ≤ 100000000) (h_c : c ≤ 8) 
    (k1 : ¬ (c : Int) < (m 74 6) → ¬ f < 0 → zB (zu (zu (zu m 74 11 0) 81 0 a) 74 11 1) → κ (some (zi f)) (zu (zu (zu m 74 11 0) 81 0 a) 74 11 1))
    (k2 : ¬ (c : Int) < (m 74 6) → f < 0 → κ (some (zi (-2))) m)
    (k3 : (c : Int) < (m 74 6) → T (D + 4) 217 (0, [(0, zr 74), (1, zr 75), (2, zi (c : Int))], [], m) (fun r m1 => T (D + 5) 262 (44, [(0, zr 74), (1, zi (p : Int)), (2, zi f), (3, zi a), (4, zi (c : Int))], r.toList ++ [], m1) κ)) :
    T (D + 5) 262 (25, lo, [], m) κ := by
  have hb4 : 0 ≤ (m 74 6) ∧ (m 74 6) ≤ 8 := hB 74 6
  have he0 : wr (c : Int) = (c : Int) := wr_id (by omega) (by omega)
  have he1 : wr (m 74 6) = (m 74 6) := wr_id (by omega) (by omega)
  have he2 : wr f = f := wr_id (by omega) (by omega)
  have key := @zb262_25r T hT D κ m p f a c lo hlo
  simp only [he0, he1, he2, Int.toNat_natCast] at key
  exact key
    (fun x0 x1 => k1 x0 x1 (zB_u (zB_u (zB_u hB (show 0 ≤ 0 ∧ 0 ≤ 32 from ⟨by omega, by omega⟩)) trivial) (show 0 ≤ 1 ∧ 1 ≤ 32 from ⟨by omega, by omega⟩)))
    k2
    k3
theorem zb262_44r (hT : zRules T) {D : Nat} {κ : Option zA → zM → Prop} {m : zM} {p : Nat} {f : Int} {a : Int} {c : Nat} {w : Int} {lo : zL} (hlo : z_keep [0, 1, 2, 3, 4] lo = [(0, zr 74), (1, zi (p : Int)), (2, zi f), (3, zi a), (4, zi (c : Int))]) 
    (o1 : wr w = (-1) → T (D + 4) 261 (0, [(0, zr 74), (1, zi (c : Int)), (2, zi (p : Int))], [], m) (fun r m1 => T (D + 5) 262 (68, [(0, zr 74), (1, zi (p : Int)), (2, zi f), (3, zi a), (4, zi (c : Int)), (5, zi w)], r.toList ++ [], m1) κ))
    (o2 : ¬ wr w = (-1) → wr w = wr (p : Int) → T (D + 4) 261 (0, [(0, zr 74), (1, zi (c : Int)), (2, zi (p : Int))], [], m) (fun r m1 => T (D + 5) 262 (68, [(0, zr 74), (1, zi (p : Int)), (2, zi f), (3, zi a), (4, zi (c : Int)), (5, zi w)], r.toList ++ [], m1) κ))
    (o3 : ¬ wr w = (-1) → ¬ wr w = wr (p : Int) → T (D + 5) 262 (25, [(0, zr 74), (1, zi (p : Int)), (2, zi f), (3, zi a), (4, zi ((c : Int) + 1))], [], m) κ) :
    T (D + 5) 262 (44, lo, [zi w], m) κ :=
  zkeep hT hlo (hT.1 [(25, [0, 1, 2, 3, 4])] 6 (D + 5) 262 _ κ (And.intro (fun a1 => (hT.1 [(25, [0, 1, 2, 3, 4])] 6 (D + 5) 262 (64, [(0, zr 74), (1, zi (p : Int)), (2, zi f), (3, zi a), (4, zi (c : Int)), (5, zi w)], [zi (c : Int), zr 74], m) _ (o1 a1))) (fun a2 => (hT.1 [(25, [0, 1, 2, 3, 4])] 6 (D + 5) 262 (55, [(0, zr 74), (1, zi (p : Int)), (2, zi f), (3, zi a), (4, zi (c : Int)), (5, zi w)], [zi (p : Int), zi w], m) _ (And.intro (fun a3 => (o2 a2 a3)) (fun a4 => (o3 a2 a4)))))))
theorem zb262_44 (hT : zRules T) {D : Nat} {κ : Option zA → zM → Prop} {m : zM} {p : Nat} {f : Int} {a : Int} {c : Nat} {w : Int} {lo : zL} (hlo : z_keep [0, 1, 2, 3, 4] lo = [(0, zr 74), (1, zi (p : Int)), (2, zi f), (3, zi a), (4, zi (c : Int))])  (hB : zB m) (h_p : p ≤ 5) (h_f : (-2) ≤ f ∧ f ≤ 7) (h_a : 0 ≤ a ∧ a ≤ 100000000) (h_c : c ≤ 7) (h_w : (-1) ≤ w ∧ w ≤ 5) 
    (k1 : w = (-1) → T (D + 4) 261 (0, [(0, zr 74), (1, zi (c : Int)), (2, zi (p : Int))], [], m) (fun r m1 => T (D + 5) 262 (68, [(0, zr 74), (1, zi (p : Int)), (2, zi f), (3, zi a), (4, zi (c : Int)), (5, zi w)], r.toList ++ [], m1) κ))
    (k2 : ¬ w = (-1) → w = (p : Int) → T (D + 4) 261 (0, [(0, zr 74), (1, zi (c : Int)), (2, zi (p : Int))], [], m) (fun r m1 => T (D + 5) 262 (68, [(0, zr 74), (1, zi (p : Int)), (2, zi f), (3, zi a), (4, zi (c : Int)), (5, zi w)], r.toList ++ [], m1) κ))
    (k3 : ¬ w = (-1) → ¬ w = (p : Int) → T (D + 5) 262 (25, [(0, zr 74), (1, zi (p : Int)), (2, zi f), (3, zi a), (4, zi ((c : Int) + 1))], [], m) κ) :
    T (D + 5) 262 (44, lo, [zi w], m) κ := by
  have he0 : wr w = w := wr_id (by omega) (by omega)
  have he1 : wr (p : Int) = (p : Int) := wr_id (by omega) (by omega)
  have key := @zb262_44r T hT D κ m p f a c w lo hlo
  simp only [he0, he1, Int.toNat_natCast] at key
  exact key
    k1
    k2
    k3
theorem zb262_68r (hT : zRules T) {D : Nat} {κ : Option zA → zM → Prop} {m : zM} {p : Nat} {f : Int} {a : Int} {c : Nat} {v : Int} {lo : zL} (hlo : z_keep [0, 1, 2, 3, 4] lo = [(0, zr 74), (1, zi (p : Int)), (2, zi f), (3, zi a), (4, zi (c : Int))]) 
    (o1 : wr v < wr a → T (D + 5) 262 (25, [(0, zr 74), (1, zi (p : Int)), (2, zi (c : Int)), (3, zi v), (4, zi ((c : Int) + 1))], [], m) κ)
    (o2 : ¬ wr v < wr a → T (D + 5) 262 (25, [(0, zr 74), (1, zi (p : Int)), (2, zi f), (3, zi a), (4, zi ((c : Int) + 1))], [], m) κ) :
    T (D + 5) 262 (68, lo, [zi v], m) κ :=
  zkeep hT hlo (hT.1 [(25, [0, 1, 2, 3, 4])] 6 (D + 5) 262 _ κ (And.intro (fun a1 => (hT.1 [(25, [0, 1, 2, 3, 4])] 6 (D + 5) 262 (82, [(0, zr 74), (1, zi (p : Int)), (2, zi (c : Int)), (3, zi a), (4, zi (c : Int)), (6, zi v)], [], m) _ (o1 a1))) (fun a2 => (hT.1 [(25, [0, 1, 2, 3, 4])] 6 (D + 5) 262 (88, [(0, zr 74), (1, zi (p : Int)), (2, zi f), (3, zi a), (4, zi ((c : Int) + 1)), (6, zi v)], [], m) _ (o2 a2)))))
theorem zb262_68 (hT : zRules T) {D : Nat} {κ : Option zA → zM → Prop} {m : zM} {p : Nat} {f : Int} {a : Int} {c : Nat} {v : Int} {lo : zL} (hlo : z_keep [0, 1, 2, 3, 4] lo = [(0, zr 74), (1, zi (p : Int)), (2, zi f), (3, zi a), (4, zi (c : Int))])  (hB : zB m) (h_p : p ≤ 5) (h_f : (-2) ≤ f ∧ f ≤ 7) (h_a : 0 ≤ a ∧ a ≤ 100000000) (h_c : c ≤ 7) (h_v : 0 ≤ v ∧ v ≤ 1000000) 
    (k1 : v < a → T (D + 5) 262 (25, [(0, zr 74), (1, zi (p : Int)), (2, zi (c : Int)), (3, zi v), (4, zi ((c : Int) + 1))], [], m) κ)
    (k2 : ¬ v < a → T (D + 5) 262 (25, [(0, zr 74), (1, zi (p : Int)), (2, zi f), (3, zi a), (4, zi ((c : Int) + 1))], [], m) κ) :
    T (D + 5) 262 (68, lo, [zi v], m) κ := by
  have he0 : wr v = v := wr_id (by omega) (by omega)
  have he1 : wr a = a := wr_id (by omega) (by omega)
  have key := @zb262_68r T hT D κ m p f a c v lo hlo
  simp only [he0, he1, Int.toNat_natCast] at key
  exact key
    k1
    k2
theorem zb261_0r (hT : zRules T) {D : Nat} {κ : Option zA → zM → Prop} {m : zM} {c : Nat} {p : Nat} 
    (o1 : T (D + 3) 228 (0, [(0, zr 75), (1, zr 91), (2, zi 0)], [], m) (fun r m1 => T (D + 4) 261 (12, [(0, zr 74), (1, zi (c : Int)), (2, zi (p : Int))], r.toList ++ [], m1) κ)) :
    T (D + 4) 261 (0, [(0, zr 74), (1, zi (c : Int)), (2, zi (p : Int))], [], m) κ :=
  hT.1 [] 6 (D + 4) 261 _ κ (o1)
theorem zb261_0 (hT : zRules T) {D : Nat} {κ : Option zA → zM → Prop} {m : zM} {c : Nat} {p : Nat}  (hB : zB m) (h_c : c ≤ 7) (h_p : p ≤ 5) 
    (k1 : T (D + 3) 228 (0, [(0, zr 75), (1, zr 91), (2, zi 0)], [], m) (fun r m1 => T (D + 4) 261 (12, [(0, zr 74), (1, zi (c : Int)), (2, zi (p : Int))], r.toList ++ [], m1) κ)) :
    T (D + 4) 261 (0, [(0, zr 74), (1, zi (c : Int)), (2, zi (p : Int))], [], m) κ := by
  exact zb261_0r hT
    k1
theorem zb261_12r (hT : zRules T) {D : Nat} {κ : Option zA → zM → Prop} {m : zM} {c : Nat} {p : Nat} {lo : zL} (hlo : z_keep [0, 1, 2] lo = [(0, zr 74), (1, zi (c : Int)), (2, zi (p : Int))]) 
    (o1 : T (D + 3) 216 (0, [(0, zr 74), (1, zi (p : Int)), (2, zi 0)], [], (zu (zu (zu m 74 31 0) 74 32 0) 74 33 0)) (fun r m1 => T (D + 4) 261 (28, [(0, zr 74), (1, zi (c : Int)), (2, zi (p : Int))], r.toList ++ [zi (c : Int), zr 91, zr 74], m1) κ)) :
    T (D + 4) 261 (12, lo, [], m) κ :=
  zkeep hT hlo (hT.1 [] 6 (D + 4) 261 _ κ (hT.1 [] 6 (D + 3) 224 _ _ (And.intro trivial (And.intro trivial (hT.1 [] 6 (D + 3) 224 (10, [(0, zr 74)], [], (zu (zu m 74 31 0) 74 32 0)) _ (And.intro trivial (hT.1 [] 6 (D + 4) 261 _ _ (hT.1 [] 6 (D + 4) 261 (24, [(0, zr 74), (1, zi (c : Int)), (2, zi (p : Int))], [zi (p : Int), zr 74, zi (c : Int), zr 91, zr 74], (zu (zu (zu m 74 31 0) 74 32 0) 74 33 0)) _ (o1)))))))))
theorem zb261_12 (hT : zRules T) {D : Nat} {κ : Option zA → zM → Prop} {m : zM} {c : Nat} {p : Nat} {lo : zL} (hlo : z_keep [0, 1, 2] lo = [(0, zr 74), (1, zi (c : Int)), (2, zi (p : Int))])  (hB : zB m) (h_c : c ≤ 7) (h_p : p ≤ 5) 
    (k1 : zB (zu (zu (zu m 74 31 0) 74 32 0) 74 33 0) → T (D + 3) 216 (0, [(0, zr 74), (1, zi (p : Int)), (2, zi 0)], [], (zu (zu (zu m 74 31 0) 74 32 0) 74 33 0)) (fun r m1 => T (D + 4) 261 (28, [(0, zr 74), (1, zi (c : Int)), (2, zi (p : Int))], r.toList ++ [zi (c : Int), zr 91, zr 74], m1) κ)) :
    T (D + 4) 261 (12, lo, [], m) κ := by
  exact zb261_12r hT hlo
    (k1  (zB_u (zB_u (zB_u hB trivial) trivial) trivial))
theorem zb261_28r (hT : zRules T) {D : Nat} {κ : Option zA → zM → Prop} {m : zM} {c : Nat} {v : Int} {lo : zL} (hlo : z_keep [0] lo = [(0, zr 74)]) 
    (o1 : T (D + 3) 226 (0, [(0, zr 74), (1, zr 91), (2, zi (c : Int)), (3, zi v)], [], m) (fun r m1 => T (D + 4) 261 (31, [(0, zr 74)], r.toList ++ [], m1) κ)) :
    T (D + 4) 261 (28, lo, [zi v, zi (c : Int), zr 91, zr 74], m) κ :=
  zkeep hT hlo (hT.1 [] 6 (D + 4) 261 _ κ (o1))
theorem zb261_28 (hT : zRules T) {D : Nat} {κ : Option zA → zM → Prop} {m : zM} {c : Nat} {v : Int} {lo : zL} (hlo : z_keep [0] lo = [(0, zr 74)])  (hB : zB m) (h_c : c ≤ 7) (h_v : 0 ≤ v ∧ v ≤ 99) 
    (k1 : T (D + 3) 226 (0, [(0, zr 74), (1, zr 91), (2, zi (c : Int)), (3, zi v)], [], m) (fun r m1 => T (D + 4) 261 (31, [(0, zr 74)], r.toList ++ [], m1) κ)) :
    T (D + 4) 261 (28, lo, [zi v, zi (c : Int), zr 91, zr 74], m) κ := by
  exact zb261_28r hT hlo
    k1
theorem zb261_31r (hT : zRules T) {D : Nat} {κ : Option zA → zM → Prop} {m : zM} {lo : zL} (hlo : z_keep [0] lo = [(0, zr 74)]) 
    (o1 : κ (some (zi (wr (wr (((m 79 1) * (m 74 31)) + ((m 79 2) * (m 74 32))))))) m) :
    T (D + 4) 261 (31, lo, [], m) κ :=
  zkeep hT hlo (hT.1 [] 6 (D + 4) 261 _ κ (hT.1 [] 6 (D + 3) 225 _ _ (And.intro (z_ixL rfl) (hT.1 [] 6 (D + 3) 225 (10, [(0, zr 74)], [zi (m 74 31), zi (m 79 1)], m) _ (And.intro (z_ixL rfl) (hT.1 [] 6 (D + 3) 225 (18, [(0, zr 74)], [zr 74, zi (m 79 2), zi ((m 79 1) * (m 74 31))], m) _ (hT.1 [] 6 (D + 4) 261 _ _ (o1))))))))
theorem zb261_31 (hT : zRules T) {D : Nat} {κ : Option zA → zM → Prop} {m : zM} {lo : zL} (hlo : z_keep [0] lo = [(0, zr 74)])  (hB : zB m) 
    (k1 : κ (some (zi (wr (((m 79 1) * (m 74 31)) + ((m 79 2) * (m 74 32)))))) m) :
    T (D + 4) 261 (31, lo, [], m) κ := by
  have hb0 : 0 ≤ (m 79 1) ∧ (m 79 1) ≤ 9 := hB 79 1
  have hb1 : 0 ≤ (m 79 2) ∧ (m 79 2) ≤ 9 := hB 79 2
  have hb2 : (-2147483648) ≤ wr (((m 79 1) * (m 74 31)) + ((m 79 2) * (m 74 32))) ∧ wr (((m 79 1) * (m 74 31)) + ((m 79 2) * (m 74 32))) ≤ 2147483647 := wrB (((m 79 1) * (m 74 31)) + ((m 79 2) * (m 74 32)))
  have he0 : wr (wr (((m 79 1) * (m 74 31)) + ((m 79 2) * (m 74 32)))) = wr (((m 79 1) * (m 74 31)) + ((m 79 2) * (m 74 32))) := wr_id (by omega) (by omega)
  have key := @zb261_31r T hT D κ m  lo hlo
  simp only [he0, Int.toNat_natCast] at key
  exact key
    k1
theorem zb141_0r (hT : zRules T) {D : Nat} {κ : Option zA → zM → Prop} {m : zM} {p : Int} {n : Int} {v : Int} 
    (o1 : wr p < 0 → κ (some (zi (-1))) m)
    (o2 : ¬ wr p < 0 → ¬ wr p < wr (m 17 0) → κ (some (zi (-1))) m)
    (o3 : ¬ wr p < 0 → wr p < wr (m 17 0) → wr n < 1 → κ (some (zi (-1))) m)
    (o4 : ¬ wr p < 0 → wr p < wr (m 17 0) → ¬ wr n < 1 → 20 < wr n → κ (some (zi (-1))) m)
    (o5 : ¬ wr p < 0 → wr p < wr (m 17 0) → ¬ wr n < 1 → ¬ 20 < wr n → wr v < 0 → κ (some (zi (-1))) m)
    (o6 : ¬ wr p < 0 → wr p < wr (m 17 0) → ¬ wr n < 1 → ¬ 20 < wr n → ¬ wr v < 0 → ¬ wr (wr (m 24 0)) < wr v → (0 ≤ wr p ∧ wr p < 6))
    (o7 : ¬ wr p < 0 → wr p < wr (m 17 0) → ¬ wr n < 1 → ¬ 20 < wr n → ¬ wr v < 0 → ¬ wr (wr (m 24 0)) < wr v → T (D + 5) 180 (0, [(0, zr 1), (1, zi p), (2, zi (m 19 ((wr p).toNat))), (3, zi n)], [], m) (fun r m1 => T (D + 6) 141 (54, [(0, zr 1), (1, zi p), (2, zi n), (3, zi v)], r.toList ++ [], m1) κ))
    (o8 : ¬ wr p < 0 → wr p < wr (m 17 0) → ¬ wr n < 1 → ¬ 20 < wr n → ¬ wr v < 0 → wr (wr (m 24 0)) < wr v → κ (some (zi (-1))) m) :
    T (D + 6) 141 (0, [(0, zr 1), (1, zi p), (2, zi n), (3, zi v)], [], m) κ :=
  hT.1 [] 6 (D + 6) 141 _ κ (hT.1 [] 6 (D + 5) 25 _ _ (And.intro (fun a1 => (And.intro (z_b01L rfl) (hT.1 [] 6 (D + 6) 141 _ _ (And.intro (fun _ => (o1 a1)) (fun a3 => (a3 (z_litT rfl)).elim))))) (fun a2 => (And.intro (fun a4 => (hT.1 [] 6 (D + 5) 25 (16, [(0, zr 17), (1, zi p)], [], m) _ (And.intro (z_b01L rfl) (hT.1 [] 6 (D + 6) 141 _ _ (And.intro (fun _ => (o2 a2 a4)) (fun a6 => (a6 (z_litT rfl)).elim)))))) (fun a5 => (hT.1 [] 6 (D + 5) 25 (12, [(0, zr 17), (1, zi p)], [], m) _ (And.intro (z_b01L rfl) (hT.1 [] 6 (D + 6) 141 _ _ (And.intro (fun a7 => (z_litF a7 rfl).elim) (fun _ => (And.intro (fun a8 => (o3 a2 (Classical.byContradiction a5) a8)) (fun a9 => (hT.1 [] 6 (D + 6) 141 (19, [(0, zr 1), (1, zi p), (2, zi n), (3, zi v)], [zi 20, zi n], m) _ (And.intro (fun a10 => (o4 a2 (Classical.byContradiction a5) a9 a10)) (fun a11 => (And.intro (fun a12 => (o5 a2 (Classical.byContradiction a5) a9 a11 a12)) (fun a13 => (hT.1 [] 6 (D + 6) 141 (31, [(0, zr 1), (1, zi p), (2, zi n), (3, zi v)], [zr 17, zi v], m) _ (hT.1 [] 6 (D + 5) 27 _ _ (And.intro (z_ixL rfl) (hT.1 [] 6 (D + 6) 141 _ _ (And.intro (fun a14 => (hT.1 [] 6 (D + 6) 141 (48, [(0, zr 1), (1, zi p), (2, zi n), (3, zi v)], [zr 19, zi p, zr 1], m) _ (And.intro (o6 a2 (Classical.byContradiction a5) a9 a11 a13 a14) (o7 a2 (Classical.byContradiction a5) a9 a11 a13 a14)))) (fun a15 => (o8 a2 (Classical.byContradiction a5) a9 a11 a13 (Classical.byContradiction a15)))))))))))))))))))))))))
theorem zb141_0 (hT : zRules T) {D : Nat} {κ : Option zA → zM → Prop} {m : zM} {p : Int} {n : Int} {v : Int}  (hB : zB m) (h_p : (-2147483648) ≤ p ∧ p ≤ 2147483647) (h_n : (-2147483648) ≤ n ∧ n ≤ 2147483647) (h_v : (-2147483648) ≤ v ∧ v ≤ 2147483647) 
    (k1 : p < 0 → κ (some (zi (-1))) m)
    (k2 : ¬ p < 0 → ¬ p < (m 17 0) → κ (some (zi (-1))) m)
    (k3 : ¬ p < 0 → p < (m 17 0) → n < 1 → κ (some (zi (-1))) m)
    (k4 : ¬ p < 0 → p < (m 17 0) → ¬ n < 1 → 20 < n → κ (some (zi (-1))) m)
    (k5 : ¬ p < 0 → p < (m 17 0) → ¬ n < 1 → ¬ 20 < n → v < 0 → κ (some (zi (-1))) m)
    (k6 : ¬ p < 0 → p < (m 17 0) → ¬ n < 1 → ¬ 20 < n → ¬ v < 0 → ¬ (m 24 0) < v → T (D + 5) 180 (0, [(0, zr 1), (1, zi p), (2, zi (m 19 (p.toNat))), (3, zi n)], [], m) (fun r m1 => T (D + 6) 141 (54, [(0, zr 1), (1, zi p), (2, zi n), (3, zi v)], r.toList ++ [], m1) κ))
    (k7 : ¬ p < 0 → p < (m 17 0) → ¬ n < 1 → ¬ 20 < n → ¬ v < 0 → (m 24 0) < v → κ (some (zi (-1))) m) :
    T (D + 6) 141 (0, [(0, zr 1), (1, zi p), (2, zi n), (3, zi v)], [], m) κ := by
  have hb3 : 0 ≤ (m 17 0) ∧ (m 17 0) ≤ 6 := hB 17 0
  have hb4 : 0 ≤ (m 24 0) ∧ (m 24 0) ≤ 9 := hB 24 0
  have hb5 : (-1) ≤ (m 19 (p.toNat)) ∧ (m 19 (p.toNat)) ≤ 3 := hB 19 (p.toNat)
  have he0 : wr p = p := wr_id (by omega) (by omega)
  have he1 : wr (m 17 0) = (m 17 0) := wr_id (by omega) (by omega)
  have he2 : wr n = n := wr_id (by omega) (by omega)
  have he3 : wr v = v := wr_id (by omega) (by omega)
  have he4 : wr (m 24 0) = (m 24 0) := wr_id (by omega) (by omega)
  have key := @zb141_0r T hT D κ m p n v
  simp only [he0, he1, he2, he3, he4, Int.toNat_natCast] at key
  exact key
    k1
    k2
    k3
    k4
    k5
    (fun x0 x1 x2 x3 x4 x5 => by refine ⟨?_, ?_⟩ <;> omega)
    k6
    k7
theorem zb141_54r (hT : zRules T) {D : Nat} {κ : Option zA → zM → Prop} {m : zM} {v : Int} {lo : zL} (hlo : z_keep [0, 3] lo = [(0, zr 1), (3, zi v)]) 
    (o1 : T (D + 5) 87 (0, [(0, zr 52), (1, zr 17), (2, zi v)], [], (zu (zu (zu m 17 12 0) 17 13 0) 17 14 0)) (fun r m1 => T (D + 6) 141 (73, [(0, zr 1), (3, zi v)], r.toList ++ [], m1) κ)) :
    T (D + 6) 141 (54, lo, [], m) κ :=
  zkeep hT hlo (hT.1 [] 6 (D + 6) 141 _ κ (hT.1 [] 6 (D + 5) 35 _ _ (And.intro trivial (And.intro trivial (hT.1 [] 6 (D + 5) 35 (10, [(0, zr 17)], [], (zu (zu m 17 12 0) 17 13 0)) _ (And.intro trivial (hT.1 [] 6 (D + 6) 141 _ _ (o1))))))))
theorem zb141_54 (hT : zRules T) {D : Nat} {κ : Option zA → zM → Prop} {m : zM} {v : Int} {lo : zL} (hlo : z_keep [0, 3] lo = [(0, zr 1), (3, zi v)])  (hB : zB m) (h_v : 0 ≤ v ∧ v ≤ 9) 
    (k1 : zB (zu (zu (zu m 17 12 0) 17 13 0) 17 14 0) → T (D + 5) 87 (0, [(0, zr 52), (1, zr 17), (2, zi v)], [], (zu (zu (zu m 17 12 0) 17 13 0) 17 14 0)) (fun r m1 => T (D + 6) 141 (73, [(0, zr 1), (3, zi v)], r.toList ++ [], m1) κ)) :
    T (D + 6) 141 (54, lo, [], m) κ := by
  exact zb141_54r hT hlo
    (k1  (zB_u (zB_u (zB_u hB trivial) trivial) trivial))
theorem zb141_73r (hT : zRules T) {D : Nat} {κ : Option zA → zM → Prop} {m : zM} {lo : zL} (hlo : z_keep [0] lo = [(0, zr 1)]) 
    (o1 : κ (some (zi (wr (wr (wr (((m 17 12) * (m 24 1)) + ((m 17 13) * (m 24 2)))))))) (zu (zu (zu m 72 1 2) 73 0 (m 17 12)) 73 1 (m 17 13))) :
    T (D + 6) 141 (73, lo, [], m) κ :=
  zkeep hT hlo (hT.1 [] 6 (D + 6) 141 _ κ (hT.1 [] 6 (D + 6) 141 (85, [(0, zr 1)], [zr 1, zi (m 17 12), zr 72], m) _ (hT.1 [] 6 (D + 5) 46 _ _ (And.intro trivial (hT.1 [] 6 (D + 5) 46 (10, [(0, zr 72), (1, zi (m 17 12)), (2, zi (m 17 13))], [zi 0, zr 73], (zu m 72 1 2)) _ (And.intro (And.intro (z_ixL rfl) trivial) (hT.1 [] 6 (D + 5) 46 (18, [(0, zr 72), (1, zi (m 17 12)), (2, zi (m 17 13))], [zi (m 17 13), zi 1, zr 73], (zu (zu m 72 1 2) 73 0 (m 17 12))) _ (And.intro (And.intro (z_ixL rfl) trivial) (hT.1 [] 6 (D + 6) 141 _ _ (hT.1 [] 6 (D + 5) 36 _ _ (hT.1 [] 6 (D + 4) 33 _ _ (And.intro (z_ixL rfl) (hT.1 [] 6 (D + 4) 33 (8, [(0, zr 17), (1, zi (m 17 12)), (2, zi (m 17 13))], [zi ((m 17 12) * (m 24 1))], (zu (zu (zu m 72 1 2) 73 0 (m 17 12)) 73 1 (m 17 13))) _ (And.intro (z_ixL rfl) (hT.1 [] 6 (D + 4) 33 (16, [(0, zr 17), (1, zi (m 17 12)), (2, zi (m 17 13))], [zi ((m 17 13) * (m 24 2)), zi ((m 17 12) * (m 24 1))], (zu (zu (zu m 72 1 2) 73 0 (m 17 12)) 73 1 (m 17 13))) _ (hT.1 [] 6 (D + 5) 36 _ _ (hT.1 [] 6 (D + 6) 141 _ _ (o1))))))))))))))))))
theorem zb141_73 (hT : zRules T) {D : Nat} {κ : Option zA → zM → Prop} {m : zM} {lo : zL} (hlo : z_keep [0] lo = [(0, zr 1)])  (hB : zB m) 
    (k1 : zB (zu (zu (zu m 72 1 2) 73 0 (m 17 12)) 73 1 (m 17 13)) → κ (some (zi (wr (((m 17 12) * (m 24 1)) + ((m 17 13) * (m 24 2)))))) (zu (zu (zu m 72 1 2) 73 0 (m 17 12)) 73 1 (m 17 13))) :
    T (D + 6) 141 (73, lo, [], m) κ := by
  have hb0 : 0 ≤ (m 24 1) ∧ (m 24 1) ≤ 9 := hB 24 1
  have hb1 : 0 ≤ (m 24 2) ∧ (m 24 2) ≤ 9 := hB 24 2
  have hb2 : (-2147483648) ≤ wr (((m 17 12) * (m 24 1)) + ((m 17 13) * (m 24 2))) ∧ wr (((m 17 12) * (m 24 1)) + ((m 17 13) * (m 24 2))) ≤ 2147483647 := wrB (((m 17 12) * (m 24 1)) + ((m 17 13) * (m 24 2)))
  have he0 : wr (wr (((m 17 12) * (m 24 1)) + ((m 17 13) * (m 24 2)))) = wr (((m 17 12) * (m 24 1)) + ((m 17 13) * (m 24 2))) := wr_id (by omega) (by omega)
  have key := @zb141_73r T hT D κ m  lo hlo
  simp only [he0, Int.toNat_natCast] at key
  exact key
    (k1  (zB_u (zB_u (zB_u hB (show 0 ≤ 2 ∧ 2 ≤ 26 from ⟨by omega, by omega⟩)) trivial) trivial))
theorem zb87_0r (hT : zRules T) {D : Nat} {κ : Option zA → zM → Prop} {m : zM} {h : Int} 
    (o1 : T (D + 3) 87 (17, [(0, zr 52), (1, zr 17), (3, zi ((m 53 0) + h)), (4, zi 1)], [], (zu m 17 12 ((m 53 0) + h))) κ) :
    T (D + 3) 87 (0, [(0, zr 52), (1, zr 17), (2, zi h)], [], m) κ :=
  hT.1 [(17, [0, 1, 3, 4])] 6 (D + 3) 87 _ κ (And.intro (z_ixL rfl) (hT.1 [(17, [0, 1, 3, 4])] 6 (D + 3) 87 (8, [(0, zr 52), (1, zr 17), (2, zi h)], [zi ((m 53 0) + h)], m) _ (And.intro trivial (o1))))
theorem zb87_0 (hT : zRules T) {D : Nat} {κ : Option zA → zM → Prop} {m : zM} {h : Int}  (hB : zB m) (h_h : 0 ≤ h ∧ h ≤ 9) 
    (k1 : zB (zu m 17 12 ((m 53 0) + h)) → T (D + 3) 87 (17, [(0, zr 52), (1, zr 17), (3, zi ((m 53 0) + h)), (4, zi 1)], [], (zu m 17 12 ((m 53 0) + h))) κ) :
    T (D + 3) 87 (0, [(0, zr 52), (1, zr 17), (2, zi h)], [], m) κ := by
  have hb1 : 0 ≤ (m 53 0) ∧ (m 53 0) ≤ 99 := hB 53 0
  exact zb87_0r hT
    (k1  (zB_u hB trivial))
theorem zb87_17r (hT : zRules T) {D : Nat} {κ : Option zA → zM → Prop} {m : zM} {a : Int} {k : Nat} {lo : zL} (hlo : z_keep [0, 1, 3, 4] lo = [(0, zr 52), (1, zr 17), (3, zi a), (4, zi (k : Int))]) 
    (o1 : ¬ wr (k : Int) < wr (m 52 1) → κ (none) m)
    (o2 : wr (k : Int) < wr (m 52 1) → (0 ≤ wr (k : Int) ∧ wr (k : Int) < 60))
    (o3 : wr (k : Int) < wr (m 52 1) → (0 ≤ wr ((k : Int) - 1) ∧ wr ((k : Int) - 1) < 60))
    (o4 : wr (k : Int) < wr (m 52 1) → ¬ wr (m 53 ((wr ((k : Int) - 1)).toNat)) = wr (m 53 ((wr (k : Int)).toNat)) → ¬ wr a < wr (m 53 ((wr (k : Int)).toNat)) → wr ((m 53 ((wr (k : Int)).toNat)) + wr (m 24 0)) < wr a → T (D + 3) 87 (17, [(0, zr 52), (1, zr 17), (3, zi ((m 53 ((wr (k : Int)).toNat)) + wr (m 24 0))), (4, zi ((k : Int) + 1))], [], (zu m 17 13 ((m 17 13) + 2))) κ)
    (o5 : wr (k : Int) < wr (m 52 1) → ¬ wr (m 53 ((wr ((k : Int) - 1)).toNat)) = wr (m 53 ((wr (k : Int)).toNat)) → ¬ wr a < wr (m 53 ((wr (k : Int)).toNat)) → ¬ wr ((m 53 ((wr (k : Int)).toNat)) + wr (m 24 0)) < wr a → T (D + 3) 87 (17, [(0, zr 52), (1, zr 17), (3, zi a), (4, zi ((k : Int) + 1))], [], (zu m 17 13 ((m 17 13) + 1))) κ)
    (o6 : wr (k : Int) < wr (m 52 1) → ¬ wr (m 53 ((wr ((k : Int) - 1)).toNat)) = wr (m 53 ((wr (k : Int)).toNat)) → wr a < wr (m 53 ((wr (k : Int)).toNat)) → T (D + 3) 87 (17, [(0, zr 52), (1, zr 17), (3, zi (m 53 ((wr (k : Int)).toNat))), (4, zi ((k : Int) + 1))], [], (zu (zu m 17 13 ((m 17 13) + 3)) 17 12 ((m 17 12) + ((m 53 ((wr (k : Int)).toNat)) - a)))) κ)
    (o7 : wr (k : Int) < wr (m 52 1) → wr (m 53 ((wr ((k : Int) - 1)).toNat)) = wr (m 53 ((wr (k : Int)).toNat)) → T (D + 3) 87 (17, [(0, zr 52), (1, zr 17), (3, zi a), (4, zi ((k : Int) + 1))], [], (zu m 17 13 ((m 17 13) + 0))) κ) :
    T (D + 3) 87 (17, lo, [], m) κ :=
  zkeep hT hlo (hT.1 [(17, [0, 1, 3, 4])] 6 (D + 3) 87 _ κ (And.intro (fun a1 => (o1 a1)) (fun a2 => (hT.1 [(17, [0, 1, 3, 4])] 6 (D + 3) 87 (30, [(0, zr 52), (1, zr 17), (3, zi a), (4, zi (k : Int))], [zr 53], m) _ (And.intro (o2 (Classical.byContradiction a2)) (hT.1 [(17, [0, 1, 3, 4])] 6 (D + 3) 87 (40, [(0, zr 52), (1, zr 17), (3, zi a), (4, zi (k : Int)), (5, zi (m 53 ((wr (k : Int)).toNat)))], [zr 53, zr 17], m) _ (And.intro (o3 (Classical.byContradiction a2)) (hT.1 [(17, [0, 1, 3, 4])] 6 (D + 3) 87 (48, [(0, zr 52), (1, zr 17), (3, zi a), (4, zi (k : Int)), (5, zi (m 53 ((wr (k : Int)).toNat)))], [zi (m 53 ((wr (k : Int)).toNat)), zi a, zi (m 53 ((wr ((k : Int) - 1)).toNat)), zr 17], m) _ (hT.1 [] 6 (D + 2) 32 _ _ (And.intro (fun a3 => (And.intro (fun a5 => (hT.1 [] 6 (D + 2) 32 (14, [(0, zr 17), (1, zi (m 53 ((wr ((k : Int) - 1)).toNat))), (2, zi a), (3, zi (m 53 ((wr (k : Int)).toNat)))], [], m) _ (hT.1 [] 6 (D + 1) 27 _ _ (And.intro (z_ixL rfl) (hT.1 [] 6 (D + 2) 32 _ _ (And.intro (fun a7 => (hT.1 [(17, [0, 1, 3, 4])] 6 (D + 3) 87 _ _ (hT.1 [(17, [0, 1, 3, 4])] 6 (D + 3) 87 (61, [(0, zr 52), (1, zr 17), (3, zi a), (4, zi (k : Int)), (5, zi (m 53 ((wr (k : Int)).toNat))), (6, zi 2)], [zi ((m 17 13) + 2), zr 17], m) _ (And.intro trivial (And.intro (fun _ => (hT.1 [(17, [0, 1, 3, 4])] 6 (D + 3) 87 (89, [(0, zr 52), (1, zr 17), (3, zi a), (4, zi (k : Int)), (5, zi (m 53 ((wr (k : Int)).toNat))), (6, zi 2)], [zi 2, zi 2], (zu m 17 13 ((m 17 13) + 2))) _ (And.intro (fun a10 => (z_litF a10 rfl).elim) (fun _ => (hT.1 [] 6 (D + 2) 27 _ _ (And.intro (z_ixL rfl) (hT.1 [(17, [0, 1, 3, 4])] 6 (D + 3) 87 _ _ (o4 (Classical.byContradiction a2) a3 a5 a7)))))))) (fun a9 => (a9 (z_litT rfl)).elim)))))) (fun a8 => (hT.1 [(17, [0, 1, 3, 4])] 6 (D + 3) 87 _ _ (hT.1 [(17, [0, 1, 3, 4])] 6 (D + 3) 87 (61, [(0, zr 52), (1, zr 17), (3, zi a), (4, zi (k : Int)), (5, zi (m 53 ((wr (k : Int)).toNat))), (6, zi 1)], [zi ((m 17 13) + 1), zr 17], m) _ (And.intro trivial (And.intro (fun _ => (hT.1 [(17, [0, 1, 3, 4])] 6 (D + 3) 87 (89, [(0, zr 52), (1, zr 17), (3, zi a), (4, zi (k : Int)), (5, zi (m 53 ((wr (k : Int)).toNat))), (6, zi 1)], [zi 2, zi 1], (zu m 17 13 ((m 17 13) + 1))) _ (And.intro (fun _ => (o5 (Classical.byContradiction a2) a3 a5 a8)) (fun a12 => (a12 (z_litT rfl)).elim)))) (fun a11 => (a11 (z_litT rfl)).elim)))))))))))) (fun a6 => (hT.1 [] 6 (D + 2) 32 (12, [(0, zr 17), (1, zi (m 53 ((wr ((k : Int) - 1)).toNat))), (2, zi a), (3, zi (m 53 ((wr (k : Int)).toNat)))], [], m) _ (hT.1 [(17, [0, 1, 3, 4])] 6 (D + 3) 87 _ _ (hT.1 [(17, [0, 1, 3, 4])] 6 (D + 3) 87 (61, [(0, zr 52), (1, zr 17), (3, zi a), (4, zi (k : Int)), (5, zi (m 53 ((wr (k : Int)).toNat))), (6, zi 3)], [zi ((m 17 13) + 3), zr 17], m) _ (And.intro trivial (And.intro (fun a13 => (z_litF a13 rfl).elim) (fun _ => (hT.1 [(17, [0, 1, 3, 4])] 6 (D + 3) 87 (72, [(0, zr 52), (1, zr 17), (3, zi a), (4, zi (k : Int)), (5, zi (m 53 ((wr (k : Int)).toNat))), (6, zi 3)], [zr 17, zr 17], (zu m 17 13 ((m 17 13) + 3))) _ (And.intro trivial (hT.1 [(17, [0, 1, 3, 4])] 6 (D + 3) 87 (83, [(0, zr 52), (1, zr 17), (3, zi a), (4, zi (k : Int)), (5, zi (m 53 ((wr (k : Int)).toNat))), (6, zi 3)], [], (zu (zu m 17 13 ((m 17 13) + 3)) 17 12 ((m 17 12) + ((m 53 ((wr (k : Int)).toNat)) - a)))) _ (And.intro (fun _ => (hT.1 [(17, [0, 1, 3, 4])] 6 (D + 3) 87 (103, [(0, zr 52), (1, zr 17), (3, zi (m 53 ((wr (k : Int)).toNat))), (4, zi ((k : Int) + 1)), (5, zi (m 53 ((wr (k : Int)).toNat))), (6, zi 3)], [], (zu (zu m 17 13 ((m 17 13) + 3)) 17 12 ((m 17 12) + ((m 53 ((wr (k : Int)).toNat)) - a)))) _ (o6 (Classical.byContradiction a2) a3 (Classical.byContradiction a6)))) (fun a14 => (a14 (z_litT rfl)).elim)))))))))))))) (fun a4 => (hT.1 [(17, [0, 1, 3, 4])] 6 (D + 3) 87 _ _ (hT.1 [(17, [0, 1, 3, 4])] 6 (D + 3) 87 (61, [(0, zr 52), (1, zr 17), (3, zi a), (4, zi (k : Int)), (5, zi (m 53 ((wr (k : Int)).toNat))), (6, zi 0)], [zi ((m 17 13) + 0), zr 17], m) _ (And.intro trivial (And.intro (fun _ => (hT.1 [(17, [0, 1, 3, 4])] 6 (D + 3) 87 (89, [(0, zr 52), (1, zr 17), (3, zi a), (4, zi (k : Int)), (5, zi (m 53 ((wr (k : Int)).toNat))), (6, zi 0)], [zi 2, zi 0], (zu m 17 13 ((m 17 13) + 0))) _ (And.intro (fun _ => (o7 (Classical.byContradiction a2) (Classical.byContradiction a4))) (fun a16 => (a16 (z_litT rfl)).elim)))) (fun a15 => (a15 (z_litT rfl)).elim))))))))))))))))
theorem zb87_17 (hT : zRules T) {D : Nat} {κ : Option zA → zM → Prop} {m : zM} {a : Int} {k : Nat} {lo : zL} (hlo : z_keep [0, 1, 3, 4] lo = [(0, zr 52), (1, zr 17), (3, zi a), (4, zi (k : Int))])  (hB : zB m) (h_a : 0 ≤ a ∧ a ≤ 108) (h_k : k ≤ 60) 
    (k1 : ¬ (k : Int) < (m 52 1) → κ (none) m)
    (k2 : (k : Int) < (m 52 1) → (0 ≤ ((k : Int) - 1) ∧ ((k : Int) - 1) < 60))
    (k3 : (k : Int) < (m 52 1) → ¬ (m 53 (((k : Int) - 1).toNat)) = (m 53 k) → ¬ a < (m 53 k) → ((m 53 k) + (m 24 0)) < a → zB (zu m 17 13 ((m 17 13) + 2)) → T (D + 3) 87 (17, [(0, zr 52), (1, zr 17), (3, zi ((m 53 k) + (m 24 0))), (4, zi ((k : Int) + 1))], [], (zu m 17 13 ((m 17 13) + 2))) κ)
    (k4 : (k : Int) < (m 52 1) → ¬ (m 53 (((k : Int) - 1).toNat)) = (m 53 k) → ¬ a < (m 53 k) → ¬ ((m 53 k) + (m 24 0)) < a → zB (zu m 17 13 ((m 17 13) + 1)) → T (D + 3) 87 (17, [(0, zr 52), (1, zr 17), (3, zi a), (4, zi ((k : Int) + 1))], [], (zu m 17 13 ((m 17 13) + 1))) κ)
    (k5 : (k : Int) < (m 52 1) → ¬ (m 53 (((k : Int) - 1).toNat)) = (m 53 k) → a < (m 53 k) → zB (zu (zu m 17 13 ((m 17 13) + 3)) 17 12 ((m 17 12) + ((m 53 k) - a))) → T (D + 3) 87 (17, [(0, zr 52), (1, zr 17), (3, zi (m 53 k)), (4, zi ((k : Int) + 1))], [], (zu (zu m 17 13 ((m 17 13) + 3)) 17 12 ((m 17 12) + ((m 53 k) - a)))) κ)
    (k6 : (k : Int) < (m 52 1) → (m 53 (((k : Int) - 1).toNat)) = (m 53 k) → zB (zu m 17 13 ((m 17 13) + 0)) → T (D + 3) 87 (17, [(0, zr 52), (1, zr 17), (3, zi a), (4, zi ((k : Int) + 1))], [], (zu m 17 13 ((m 17 13) + 0))) κ) :
    T (D + 3) 87 (17, lo, [], m) κ := by
  have hb2 : 0 ≤ (m 52 1) ∧ (m 52 1) ≤ 60 := hB 52 1
  have hb3 : 0 ≤ (m 53 k) ∧ (m 53 k) ≤ 99 := hB 53 k
  have hb4 : 0 ≤ (m 53 (((k : Int) - 1).toNat)) ∧ (m 53 (((k : Int) - 1).toNat)) ≤ 99 := hB 53 (((k : Int) - 1).toNat)
  have hb5 : 0 ≤ (m 24 0) ∧ (m 24 0) ≤ 9 := hB 24 0
  have he0 : wr (k : Int) = (k : Int) := wr_id (by omega) (by omega)
  have he1 : wr (m 52 1) = (m 52 1) := wr_id (by omega) (by omega)
  have he2 : (k : Int).toNat = k := by omega
  have he3 : wr ((k : Int) - 1) = ((k : Int) - 1) := wr_id (by omega) (by omega)
  have he4 : wr (m 53 (((k : Int) - 1).toNat)) = (m 53 (((k : Int) - 1).toNat)) := wr_id (by omega) (by omega)
  have he5 : wr (m 53 k) = (m 53 k) := wr_id (by omega) (by omega)
  have he6 : wr a = a := wr_id (by omega) (by omega)
  have he7 : wr (m 24 0) = (m 24 0) := wr_id (by omega) (by omega)
  have he8 : wr ((m 53 k) + (m 24 0)) = ((m 53 k) + (m 24 0)) := wr_id (by omega) (by omega)
  have key := @zb87_17r T hT D κ m a k lo hlo
  simp only [he0, he1, he2, he3, he4, he5, he6, he7, he8, Int.toNat_natCast] at key
  exact key
    k1
    (fun x0 => by refine ⟨?_, ?_⟩ <;> omega)
    k2
    (fun x0 x1 x2 x3 => k3 x0 x1 x2 x3 (zB_u hB trivial))
    (fun x0 x1 x2 x3 => k4 x0 x1 x2 x3 (zB_u hB trivial))
    (fun x0 x1 x2 => k5 x0 x1 x2 (zB_u (zB_u hB trivial) trivial))
    (fun x0 x1 => k6 x0 x1 (zB_u hB trivial))
theorem zb259_0r (hT : zRules T) {D : Nat} {κ : Option zA → zM → Prop} {m : zM} {p : Int} {n : Int} {v : Int} 
    (o1 : wr p < 0 → κ (some (zi (-1))) (zu m 74 12 0))
    (o2 : ¬ wr p < 0 → wr ((m 74 4) - 1) < wr p → κ (some (zi (-1))) (zu m 74 12 0))
    (o3 : ¬ wr p < 0 → ¬ wr ((m 74 4) - 1) < wr p → wr n < 1 → κ (some (zi (-1))) (zu m 74 12 0))
    (o4 : ¬ wr p < 0 → ¬ wr ((m 74 4) - 1) < wr p → ¬ wr n < 1 → 20 < wr n → κ (some (zi (-1))) (zu m 74 12 0))
    (o5 : ¬ wr p < 0 → ¬ wr ((m 74 4) - 1) < wr p → ¬ wr n < 1 → ¬ 20 < wr n → wr v < 0 → κ (some (zi (-1))) (zu m 74 12 0))
    (o6 : ¬ wr p < 0 → ¬ wr ((m 74 4) - 1) < wr p → ¬ wr n < 1 → ¬ 20 < wr n → ¬ wr v < 0 → wr (m 79 0) < wr v → κ (some (zi (-1))) (zu m 74 12 0))
    (o7 : ¬ wr p < 0 → ¬ wr ((m 74 4) - 1) < wr p → ¬ wr n < 1 → ¬ 20 < wr n → ¬ wr v < 0 → ¬ wr (m 79 0) < wr v → T (D + 3) 228 (0, [(0, zr 75), (1, zr 91), (2, zi 0)], [], (zu m 74 12 0)) (fun r m1 => T (D + 4) 259 (51, [(0, zr 74), (1, zi p), (2, zi n), (3, zi v)], r.toList ++ [], m1) κ)) :
    T (D + 4) 259 (0, [(0, zr 74), (1, zi p), (2, zi n), (3, zi v)], [], m) κ :=
  hT.1 [(92, [0, 1, 2, 4])] 6 (D + 4) 259 _ κ (And.intro trivial (hT.1 [] 6 (D + 3) 190 _ _ (hT.1 [] 6 (D + 3) 190 (8, [(0, zr 74), (1, zi p)], [zi ((m 74 4) - 1), zi 0, zi p], (zu m 74 12 0)) _ (hT.1 [] 6 (D + 2) 186 _ _ (And.intro (fun a1 => (And.intro (z_b01L rfl) (hT.1 [] 6 (D + 3) 190 _ _ (And.intro (z_b01L rfl) (hT.1 [(92, [0, 1, 2, 4])] 6 (D + 4) 259 _ _ (And.intro (fun _ => (o1 a1)) (fun a3 => (a3 (z_litT rfl)).elim))))))) (fun a2 => (And.intro (fun a4 => (hT.1 [] 6 (D + 2) 186 (14, [(0, zi p), (1, zi 0), (2, zi ((m 74 4) - 1))], [], (zu m 74 12 0)) _ (And.intro (z_b01L rfl) (hT.1 [] 6 (D + 3) 190 _ _ (And.intro (z_b01L rfl) (hT.1 [(92, [0, 1, 2, 4])] 6 (D + 4) 259 _ _ (And.intro (fun _ => (o2 a2 a4)) (fun a6 => (a6 (z_litT rfl)).elim)))))))) (fun a5 => (hT.1 [] 6 (D + 2) 186 (10, [(0, zi p), (1, zi 0), (2, zi ((m 74 4) - 1))], [], (zu m 74 12 0)) _ (And.intro (z_b01L rfl) (hT.1 [] 6 (D + 3) 190 _ _ (And.intro (z_b01L rfl) (hT.1 [(92, [0, 1, 2, 4])] 6 (D + 4) 259 _ _ (And.intro (fun a7 => (z_litF a7 rfl).elim) (fun _ => (hT.1 [] 6 (D + 3) 186 _ _ (And.intro (fun a8 => (And.intro (z_b01L rfl) (hT.1 [(92, [0, 1, 2, 4])] 6 (D + 4) 259 _ _ (And.intro (fun _ => (o3 a2 a5 a8)) (fun a10 => (a10 (z_litT rfl)).elim))))) (fun a9 => (And.intro (fun a11 => (hT.1 [] 6 (D + 3) 186 (14, [(0, zi n), (1, zi 1), (2, zi 20)], [], (zu m 74 12 0)) _ (And.intro (z_b01L rfl) (hT.1 [(92, [0, 1, 2, 4])] 6 (D + 4) 259 _ _ (And.intro (fun _ => (o4 a2 a5 a9 a11)) (fun a13 => (a13 (z_litT rfl)).elim)))))) (fun a12 => (hT.1 [] 6 (D + 3) 186 (10, [(0, zi n), (1, zi 1), (2, zi 20)], [], (zu m 74 12 0)) _ (And.intro (z_b01L rfl) (hT.1 [(92, [0, 1, 2, 4])] 6 (D + 4) 259 _ _ (And.intro (fun a14 => (z_litF a14 rfl).elim) (fun _ => (hT.1 [(92, [0, 1, 2, 4])] 6 (D + 4) 259 (30, [(0, zr 74), (1, zi p), (2, zi n), (3, zi v)], [zi 0, zr 79, zi 0, zi v], (zu m 74 12 0)) _ (And.intro (z_ixL rfl) (hT.1 [] 6 (D + 3) 186 _ _ (And.intro (fun a15 => (And.intro (z_b01L rfl) (hT.1 [(92, [0, 1, 2, 4])] 6 (D + 4) 259 _ _ (And.intro (fun a17 => (z_litF a17 rfl).elim) (fun _ => (o5 a2 a5 a9 a12 a15)))))) (fun a16 => (And.intro (fun a18 => (hT.1 [] 6 (D + 3) 186 (14, [(0, zi v), (1, zi 0), (2, zi (m 79 0))], [], (zu m 74 12 0)) _ (And.intro (z_b01L rfl) (hT.1 [(92, [0, 1, 2, 4])] 6 (D + 4) 259 _ _ (And.intro (fun a20 => (z_litF a20 rfl).elim) (fun _ => (o6 a2 a5 a9 a12 a16 a18))))))) (fun a19 => (hT.1 [] 6 (D + 3) 186 (10, [(0, zi v), (1, zi 0), (2, zi (m 79 0))], [], (zu m 74 12 0)) _ (And.intro (z_b01L rfl) (hT.1 [(92, [0, 1, 2, 4])] 6 (D + 4) 259 _ _ (And.intro (fun _ => (hT.1 [(92, [0, 1, 2, 4])] 6 (D + 4) 259 (48, [(0, zr 74), (1, zi p), (2, zi n), (3, zi v)], [zi 0, zr 91, zr 75], (zu m 74 12 0)) _ (o7 a2 a5 a9 a12 a16 a19))) (fun a21 => (a21 (z_litT rfl)).elim)))))))))))))))))))))))))))))))))))))
theorem zb259_0 (hT : zRules T) {D : Nat} {κ : Option zA → zM → Prop} {m : zM} {p : Int} {n : Int} {v : Int}  (hB : zB m) (h_p : (-2147483648) ≤ p ∧ p ≤ 2147483647) (h_n : (-2147483648) ≤ n ∧ n ≤ 2147483647) (h_v : (-2147483648) ≤ v ∧ v ≤ 2147483647) 
    (k1 : p < 0 → zB (zu m 74 12 0) → κ (some (zi (-1))) (zu m 74 12 0))
    (k2 : ¬ p < 0 → ((m 74 4) - 1) < p → zB (zu m 74 12 0) → κ (some (zi (-1))) (zu m 74 12 0))
    (k3 : ¬ p < 0 → ¬ ((m 74 4) - 1) < p → n < 1 → zB (zu m 74 12 0) → κ (some (zi (-1))) (zu m 74 12 0))
    (k4 : ¬ p < 0 → ¬ ((m 74 4) - 1) < p → ¬ n < 1 → 20 < n → zB (zu m 74 12 0) → κ (some (zi (-1))) (zu m 74 12 0))
    (k5 : ¬ p < 0 → ¬ ((m 74 4) - 1) < p → ¬ n < 1 → ¬ 20 < n → v < 0 → zB (zu m 74 12 0) → κ (some (zi (-1))) (zu m 74 12 0))
    (k6 : ¬ p < 0 → ¬ ((m 74 4) - 1) < p → ¬ n < 1 → ¬ 20 < n → ¬ v < 0 → (m 79 0) < v → zB (zu m 74 12 0) → κ (some (zi (-1))) (zu m 74 12 0))
    (k7 : ¬ p < 0 → ¬ ((m 74 4) - 1) < p → ¬ n < 1 → ¬ 20 < n → ¬ v < 0 → ¬ (m 79 0) < v → zB (zu m 74 12 0) → T (D + 3) 228 (0, [(0, zr 75), (1, zr 91), (2, zi 0)], [], (zu m 74 12 0)) (fun r m1 => T (D + 4) 259 (51, [(0, zr 74), (1, zi p), (2, zi n), (3, zi v)], r.toList ++ [], m1) κ)) :
    T (D + 4) 259 (0, [(0, zr 74), (1, zi p), (2, zi n), (3, zi v)], [], m) κ := by
  have hb3 : 0 ≤ (m 74 4) ∧ (m 74 4) ≤ 6 := hB 74 4
  have hb4 : 0 ≤ (m 79 0) ∧ (m 79 0) ≤ 9 := hB 79 0
  have he0 : wr p = p := wr_id (by omega) (by omega)
  have he1 : wr ((m 74 4) - 1) = ((m 74 4) - 1) := wr_id (by omega) (by omega)
  have he2 : wr n = n := wr_id (by omega) (by omega)
  have he3 : wr v = v := wr_id (by omega) (by omega)
  have he4 : wr (m 79 0) = (m 79 0) := wr_id (by omega) (by omega)
  have key := @zb259_0r T hT D κ m p n v
  simp only [he0, he1, he2, he3, he4, Int.toNat_natCast] at key
  exact key
    (fun x0 => k1 x0 (zB_u hB trivial))
    (fun x0 x1 => k2 x0 x1 (zB_u hB trivial))
    (fun x0 x1 x2 => k3 x0 x1 x2 (zB_u hB trivial))
    (fun x0 x1 x2 x3 => k4 x0 x1 x2 x3 (zB_u hB trivial))
    (fun x0 x1 x2 x3 x4 => k5 x0 x1 x2 x3 x4 (zB_u hB trivial))
    (fun x0 x1 x2 x3 x4 x5 => k6 x0 x1 x2 x3 x4 x5 (zB_u hB trivial))
    (fun x0 x1 x2 x3 x4 x5 => k7 x0 x1 x2 x3 x4 x5 (zB_u hB trivial))
theorem zb259_51r (hT : zRules T) {D : Nat} {κ : Option zA → zM → Prop} {m : zM} {p : Nat} {n : Nat} {v : Int} {lo : zL} (hlo : z_keep [0, 1, 2, 3] lo = [(0, zr 74), (1, zi (p : Int)), (2, zi (n : Int)), (3, zi v)]) 
    (o1 : T (D + 3) 216 (0, [(0, zr 74), (1, zi (p : Int)), (2, zi 0)], [], (zu (zu (zu m 74 31 0) 74 32 0) 74 33 0)) (fun r m1 => T (D + 4) 259 (67, [(0, zr 74), (1, zi (p : Int)), (2, zi (n : Int)), (3, zi v)], r.toList ++ [zi 12, zr 91], m1) κ)) :
    T (D + 4) 259 (51, lo, [], m) κ :=
  zkeep hT hlo (hT.1 [(92, [0, 1, 2, 4])] 6 (D + 4) 259 _ κ (hT.1 [] 6 (D + 3) 224 _ _ (And.intro trivial (And.intro trivial (hT.1 [] 6 (D + 3) 224 (10, [(0, zr 74)], [], (zu (zu m 74 31 0) 74 32 0)) _ (And.intro trivial (hT.1 [(92, [0, 1, 2, 4])] 6 (D + 4) 259 _ _ (hT.1 [(92, [0, 1, 2, 4])] 6 (D + 4) 259 (64, [(0, zr 74), (1, zi (p : Int)), (2, zi (n : Int)), (3, zi v)], [zi 0, zi (p : Int), zr 74, zi 12, zr 91], (zu (zu (zu m 74 31 0) 74 32 0) 74 33 0)) _ (o1)))))))))
theorem zb259_51 (hT : zRules T) {D : Nat} {κ : Option zA → zM → Prop} {m : zM} {p : Nat} {n : Nat} {v : Int} {lo : zL} (hlo : z_keep [0, 1, 2, 3] lo = [(0, zr 74), (1, zi (p : Int)), (2, zi (n : Int)), (3, zi v)])  (hB : zB m) (h_p : p ≤ 5) (h_n : n ≤ 20) (h_v : 0 ≤ v ∧ v ≤ 9) 
    (k1 : zB (zu (zu (zu m 74 31 0) 74 32 0) 74 33 0) → T (D + 3) 216 (0, [(0, zr 74), (1, zi (p : Int)), (2, zi 0)], [], (zu (zu (zu m 74 31 0) 74 32 0) 74 33 0)) (fun r m1 => T (D + 4) 259 (67, [(0, zr 74), (1, zi (p : Int)), (2, zi (n : Int)), (3, zi v)], r.toList ++ [zi 12, zr 91], m1) κ)) :
    T (D + 4) 259 (51, lo, [], m) κ := by
  exact zb259_51r hT hlo
    (k1  (zB_u (zB_u (zB_u hB trivial) trivial) trivial))
theorem zb259_67r (hT : zRules T) {D : Nat} {κ : Option zA → zM → Prop} {m : zM} {p : Nat} {n : Nat} {v : Int} {w : Int} {lo : zL} (hlo : z_keep [0, 1, 2, 3] lo = [(0, zr 74), (1, zi (p : Int)), (2, zi (n : Int)), (3, zi v)]) 
    (o1 : T (D + 4) 259 (92, [(0, zr 74), (1, zi (p : Int)), (2, zi (n : Int)), (4, zi 1)], [], (zu (zu (zu m 91 12 w) 91 20 v) 74 31 (w + v))) κ) :
    T (D + 4) 259 (67, lo, [zi w, zi 12, zr 91], m) κ :=
  zkeep hT hlo (hT.1 [(92, [0, 1, 2, 4])] 6 (D + 4) 259 _ κ (And.intro (And.intro (z_ixL rfl) trivial) (And.intro (And.intro (z_ixL rfl) trivial) (hT.1 [(92, [0, 1, 2, 4])] 6 (D + 4) 259 (76, [(0, zr 74), (1, zi (p : Int)), (2, zi (n : Int)), (3, zi v)], [], (zu (zu m 91 12 w) 91 20 v)) _ (And.intro (z_ixL rfl) (hT.1 [(92, [0, 1, 2, 4])] 6 (D + 4) 259 (85, [(0, zr 74), (1, zi (p : Int)), (2, zi (n : Int)), (3, zi v)], [zi v, zi w, zr 74], (zu (zu m 91 12 w) 91 20 v)) _ (And.intro trivial (o1))))))))
theorem zb259_67 (hT : zRules T) {D : Nat} {κ : Option zA → zM → Prop} {m : zM} {p : Nat} {n : Nat} {v : Int} {w : Int} {lo : zL} (hlo : z_keep [0, 1, 2, 3] lo = [(0, zr 74), (1, zi (p : Int)), (2, zi (n : Int)), (3, zi v)])  (hB : zB m) (h_p : p ≤ 5) (h_n : n ≤ 20) (h_v : 0 ≤ v ∧ v ≤ 9) (h_w : 0 ≤ w ∧ w ≤ 99) 
    (k1 : zB (zu (zu (zu m 91 12 w) 91 20 v) 74 31 (w + v)) → T (D + 4) 259 (92, [(0, zr 74), (1, zi (p : Int)), (2, zi (n : Int)), (4, zi 1)], [], (zu (zu (zu m 91 12 w) 91 20 v) 74 31 (w + v))) κ) :
    T (D + 4) 259 (67, lo, [zi w, zi 12, zr 91], m) κ := by
  exact zb259_67r hT hlo
    (k1  (zB_u (zB_u (zB_u hB (show (-1) ≤ w ∧ w ≤ 99 from ⟨by omega, by omega⟩)) (show (-1) ≤ v ∧ v ≤ 9 from ⟨by omega, by omega⟩)) trivial))
theorem zb259_92r (hT : zRules T) {D : Nat} {κ : Option zA → zM → Prop} {m : zM} {p : Nat} {n : Nat} {k : Nat} {lo : zL} (hlo : z_keep [0, 1, 2, 4] lo = [(0, zr 74), (1, zi (p : Int)), (2, zi (n : Int)), (4, zi (k : Int))]) 
    (o1 : ¬ wr (k : Int) < wr (n : Int) → κ (some (zi (wr (wr (((m 79 1) * (m 74 31)) + ((m 79 2) * (m 74 32))))))) (zu (zu (zu (zu (zu m 74 11 0) 81 0 (m 74 31)) 74 11 1) 81 1 (m 74 32)) 74 11 2))
    (o2 : wr (k : Int) < wr (n : Int) → T (D + 3) 216 (0, [(0, zr 74), (1, zi (p : Int)), (2, zi (k : Int))], [], m) (fun r m1 => T (D + 4) 259 (111, [(0, zr 74), (1, zi (p : Int)), (2, zi (n : Int)), (4, zi (k : Int))], r.toList ++ [zi 0, zr 91, zr 74], m1) κ)) :
    T (D + 4) 259 (92, lo, [], m) κ :=
  zkeep hT hlo (hT.1 [(92, [0, 1, 2, 4])] 6 (D + 4) 259 _ κ (And.intro (fun a1 => (And.intro trivial (hT.1 [(92, [0, 1, 2, 4])] 6 (D + 4) 259 (125, [(0, zr 74), (1, zi (p : Int)), (2, zi (n : Int)), (4, zi (k : Int))], [], (zu m 74 11 0)) _ (hT.1 [] 6 (D + 3) 189 _ _ (And.intro (And.intro (z_ixL rfl) trivial) (hT.1 [] 6 (D + 3) 189 (10, [(0, zr 74), (1, zi (m 74 31))], [], (zu (zu m 74 11 0) 81 0 (m 74 31))) _ (And.intro trivial (hT.1 [] 6 (D + 3) 189 (20, [(0, zr 74), (1, zi (m 74 31))], [], (zu (zu (zu m 74 11 0) 81 0 (m 74 31)) 74 11 1)) _ (hT.1 [(92, [0, 1, 2, 4])] 6 (D + 4) 259 _ _ (hT.1 [] 6 (D + 3) 189 _ _ (And.intro (And.intro (z_ixL rfl) trivial) (hT.1 [] 6 (D + 3) 189 (10, [(0, zr 74), (1, zi (m 74 32))], [], (zu (zu (zu (zu m 74 11 0) 81 0 (m 74 31)) 74 11 1) 81 1 (m 74 32))) _ (And.intro trivial (hT.1 [] 6 (D + 3) 189 (20, [(0, zr 74), (1, zi (m 74 32))], [], (zu (zu (zu (zu (zu m 74 11 0) 81 0 (m 74 31)) 74 11 1) 81 1 (m 74 32)) 74 11 2)) _ (hT.1 [(92, [0, 1, 2, 4])] 6 (D + 4) 259 _ _ (hT.1 [] 6 (D + 3) 225 _ _ (And.intro (z_ixL rfl) (hT.1 [] 6 (D + 3) 225 (10, [(0, zr 74)], [zi (m 74 31), zi (m 79 1)], (zu (zu (zu (zu (zu m 74 11 0) 81 0 (m 74 31)) 74 11 1) 81 1 (m 74 32)) 74 11 2)) _ (And.intro (z_ixL rfl) (hT.1 [] 6 (D + 3) 225 (18, [(0, zr 74)], [zr 74, zi (m 79 2), zi ((m 79 1) * (m 74 31))], (zu (zu (zu (zu (zu m 74 11 0) 81 0 (m 74 31)) 74 11 1) 81 1 (m 74 32)) 74 11 2)) _ (hT.1 [(92, [0, 1, 2, 4])] 6 (D + 4) 259 _ _ (o1 a1)))))))))))))))))))))) (fun a2 => (hT.1 [(92, [0, 1, 2, 4])] 6 (D + 4) 259 (103, [(0, zr 74), (1, zi (p : Int)), (2, zi (n : Int)), (4, zi (k : Int))], [zr 91, zr 74], m) _ (o2 (Classical.byContradiction a2))))))
theorem zb259_92 (hT : zRules T) {D : Nat} {κ : Option zA → zM → Prop} {m : zM} {p : Nat} {n : Nat} {k : Nat} {lo : zL} (hlo : z_keep [0, 1, 2, 4] lo = [(0, zr 74), (1, zi (p : Int)), (2, zi (n : Int)), (4, zi (k : Int))])  (hB : zB m) (h_p : p ≤ 5) (h_n : n ≤ 20) (h_k : k ≤ 20) 
    (k1 : ¬ (k : Int) < (n : Int) → zB (zu (zu (zu (zu (zu m 74 11 0) 81 0 (m 74 31)) 74 11 1) 81 1 (m 74 32)) 74 11 2) → κ (some (zi (wr (((m 79 1) * (m 74 31)) + ((m 79 2) * (m 74 32)))))) (zu (zu (zu (zu (zu m 74 11 0) 81 0 (m 74 31)) 74 11 1) 81 1 (m 74 32)) 74 11 2))
    (k2 : (k : Int) < (n : Int) → T (D + 3) 216 (0, [(0, zr 74), (1, zi (p : Int)), (2, zi (k : Int))], [], m) (fun r m1 => T (D + 4) 259 (111, [(0, zr 74), (1, zi (p : Int)), (2, zi (n : Int)), (4, zi (k : Int))], r.toList ++ [zi 0, zr 91, zr 74], m1) κ)) :
    T (D + 4) 259 (92, lo, [], m) κ := by
  have hb3 : 0 ≤ (m 79 1) ∧ (m 79 1) ≤ 9 := hB 79 1
  have hb4 : 0 ≤ (m 79 2) ∧ (m 79 2) ≤ 9 := hB 79 2
  have hb5 : (-2147483648) ≤ wr (((m 79 1) * (m 74 31)) + ((m 79 2) * (m 74 32))) ∧ wr (((m 79 1) * (m 74 31)) + ((m 79 2) * (m 74 32))) ≤ 2147483647 := wrB (((m 79 1) * (m 74 31)) + ((m 79 2) * (m 74 32)))
  have he0 : wr (k : Int) = (k : Int) := wr_id (by omega) (by omega)
  have he1 : wr (n : Int) = (n : Int) := wr_id (by omega) (by omega)
  have he2 : wr (wr (((m 79 1) * (m 74 31)) + ((m 79 2) * (m 74 32)))) = wr (((m 79 1) * (m 74 31)) + ((m 79 2) * (m 74 32))) := wr_id (by omega) (by omega)
  have key := @zb259_92r T hT D κ m p n k lo hlo
  simp only [he0, he1, he2, Int.toNat_natCast] at key
  exact key
    (fun x0 => k1 x0 (zB_u (zB_u (zB_u (zB_u (zB_u hB (show 0 ≤ 0 ∧ 0 ≤ 32 from ⟨by omega, by omega⟩)) trivial) (show 0 ≤ 1 ∧ 1 ≤ 32 from ⟨by omega, by omega⟩)) trivial) (show 0 ≤ 2 ∧ 2 ≤ 32 from ⟨by omega, by omega⟩)))
    k2
theorem zb259_111r (hT : zRules T) {D : Nat} {κ : Option zA → zM → Prop} {m : zM} {p : Nat} {n : Nat} {k : Nat} {w : Int} {lo : zL} (hlo : z_keep [0, 1, 2, 4] lo = [(0, zr 74), (1, zi (p : Int)), (2, zi (n : Int)), (4, zi (k : Int))]) 
    (o1 : T (D + 3) 226 (0, [(0, zr 74), (1, zr 91), (2, zi 0), (3, zi w)], [], m) (fun r m1 => T (D + 4) 259 (114, [(0, zr 74), (1, zi (p : Int)), (2, zi (n : Int)), (4, zi (k : Int))], r.toList ++ [], m1) κ)) :
    T (D + 4) 259 (111, lo, [zi w, zi 0, zr 91, zr 74], m) κ :=
  zkeep hT hlo (hT.1 [(92, [0, 1, 2, 4])] 6 (D + 4) 259 _ κ (o1))
theorem zb259_111 (hT : zRules T) {D : Nat} {κ : Option zA → zM → Prop} {m : zM} {p : Nat} {n : Nat} {k : Nat} {w : Int} {lo : zL} (hlo : z_keep [0, 1, 2, 4] lo = [(0, zr 74), (1, zi (p : Int)), (2, zi (n : Int)), (4, zi (k : Int))])  (hB : zB m) (h_p : p ≤ 5) (h_n : n ≤ 20) (h_k : k ≤ 20) (h_w : 0 ≤ w ∧ w ≤ 99) 
    (k1 : T (D + 3) 226 (0, [(0, zr 74), (1, zr 91), (2, zi 0), (3, zi w)], [], m) (fun r m1 => T (D + 4) 259 (114, [(0, zr 74), (1, zi (p : Int)), (2, zi (n : Int)), (4, zi (k : Int))], r.toList ++ [], m1) κ)) :
    T (D + 4) 259 (111, lo, [zi w, zi 0, zr 91, zr 74], m) κ := by
  exact zb259_111r hT hlo
    k1
theorem zb259_114r (hT : zRules T) {D : Nat} {κ : Option zA → zM → Prop} {m : zM} {p : Nat} {n : Nat} {k : Nat} {lo : zL} (hlo : z_keep [0, 1, 2, 4] lo = [(0, zr 74), (1, zi (p : Int)), (2, zi (n : Int)), (4, zi (k : Int))]) 
    (o1 : T (D + 4) 259 (92, [(0, zr 74), (1, zi (p : Int)), (2, zi (n : Int)), (4, zi ((k : Int) + 1))], [], m) κ) :
    T (D + 4) 259 (114, lo, [], m) κ :=
  zkeep hT hlo (hT.1 [(92, [0, 1, 2, 4])] 6 (D + 4) 259 _ κ (o1))
theorem zb259_114 (hT : zRules T) {D : Nat} {κ : Option zA → zM → Prop} {m : zM} {p : Nat} {n : Nat} {k : Nat} {lo : zL} (hlo : z_keep [0, 1, 2, 4] lo = [(0, zr 74), (1, zi (p : Int)), (2, zi (n : Int)), (4, zi (k : Int))])  (hB : zB m) (h_p : p ≤ 5) (h_n : n ≤ 20) (h_k : k ≤ 20) 
    (k1 : T (D + 4) 259 (92, [(0, zr 74), (1, zi (p : Int)), (2, zi (n : Int)), (4, zi ((k : Int) + 1))], [], m) κ) :
    T (D + 4) 259 (114, lo, [], m) κ := by
  exact zb259_114r hT hlo
    k1
end ZBlocks
end
-- 84.idle.lean.txt
section
/-! idle(). -/
/-- those whom one of the first so many names -/
noncomputable def wset (f : Nat → Int) : Nat → Nat
  | 0 => 0
  | p + 1 => if f p = -1 then wset f p else wset f p ||| 2 ^ (f p).toNat
theorem wset_lt {f : Nat → Int} {n : Nat} (h : ∀ p, p < n → f p = -1 ∨ (0 ≤ f p ∧ f p < 8)) : ∀ p, p ≤ n → wset f p < 2 ^ 8
  | 0, _ => (by decide : (0 : Nat) < 2 ^ 8)
  | p + 1, hp => by
    have h1 := wset_lt h p (by omega)
    have h2 := h p (by omega)
    rw [wset]
    by_cases q : f p = -1
    · rw [if_pos q]
      exact h1
    · rw [if_neg q]
      exact Nat.or_lt_two_pow h1 (Nat.pow_lt_pow_right (by omega) (by omega))
theorem wset_bit {f : Nat → Int} {n : Nat} (h : ∀ p, p < n → f p = -1 ∨ (0 ≤ f p ∧ f p < 8)) (c : Nat) : ∀ p, p ≤ n → ((wset f p).testBit c = true ↔ ∃ q, q < p ∧ f q = (c : Int))
  | 0, _ => by
    rw [wset, Nat.zero_testBit]
    exact ⟨(fun x => by cases x), (fun ⟨q, hq, _⟩ => by omega)⟩
  | p + 1, hp => by
    have h1 := wset_bit h c p (by omega)
    have h2 := h p (by omega)
    rw [wset]
    by_cases q : f p = -1
    · rw [if_pos q, h1]
      refine ⟨fun ⟨x, x1, x2⟩ => ⟨x, by omega, x2⟩, fun ⟨x, x1, x2⟩ => ⟨x, ?_, x2⟩⟩
      rcases Nat.lt_or_ge x p with y | y
      · exact y
      · have e : x = p := by omega
        subst e
        omega
    · rw [if_neg q, Nat.testBit_or, Bool.or_eq_true, h1, Nat.testBit_two_pow]
      refine ⟨fun x => ?_, fun ⟨x, x1, x2⟩ => ?_⟩
      · rcases x with ⟨x, x1, x2⟩ | x
        · exact ⟨x, by omega, x2⟩
        · have := of_decide_eq_true x
          exact ⟨p, by omega, by omega⟩
      · rcases Nat.lt_or_ge x p with y | y
        · exact Or.inl ⟨x, y, x2⟩
        · have e : x = p := by omega
          subst e
          exact Or.inr (decide_eq_true (by omega))
theorem wset_step {f : Nat → Int} {n p : Nat} (h : ∀ p, p < n → f p = -1 ∨ (0 ≤ f p ∧ f p < 8)) (hp : p < n) (q : ¬ f p = -1) : z_or (wset f p : Int) (z_shl 1 (f p)) = (wset f (p + 1) : Int) := by
  have h1 := wset_lt h p (by omega)
  have h2 := h p hp
  have e : f p = ((f p).toNat : Int) := by omega
  have h3 : 2 ^ (f p).toNat ≤ 2 ^ 8 := Nat.pow_le_pow_right (by omega) (by omega)
  rw [wset, if_neg q]
  rw [e, z_shl1T _ (by omega), z_orN (by omega) (by omega), Int.toNat_natCast]
theorem wIx_none {f : Nat → Int} {c : Int} : ∀ (j p : Nat), wIx f c p j = -1 ↔ ∀ i, p ≤ i → i < p + j → ¬ f i = c
  | 0, p => ⟨fun _ i h1 h2 => by omega, fun _ => rfl⟩
  | j + 1, p => by
    rw [wIx]
    by_cases q : f p = c
    · rw [if_pos q]
      exact ⟨fun x => by omega, fun x => absurd q (x p (by omega) (by omega))⟩
    · rw [if_neg q, wIx_none j (p + 1)]
      refine ⟨fun x i h1 h2 => ?_, fun x i h1 h2 => x i (by omega) (by omega)⟩
      by_cases e : i = p
      · rw [e]
        exact q
      · exact x i (by omega) (by omega)
theorem z_notE : ∀ k : Nat, k < 9 → ∀ w : Nat, w < 256 → z_and (z_shl 1 (k : Int) - 1) (z_xor (w : Int) (-1)) = ((bset (fun c => !w.testBit c) k : Nat) : Int) := by decide +kernel
section ZIdle
variable {T : Nat → Nat → zG → (Option zA → zM → Prop) → Prop} {B : Int}
theorem z_popB (a : Int) : 0 ≤ z_and a 63 ∧ z_and a 63 ≤ 63 := z_andC a 63 (by decide)
theorem w_idle (hT : zRules T) : Way T 142 260 [(0, zr 1)] [(0, zr 74)] 2 3 B B True := by
  rintro D m sc ⟨n, k, hI⟩ κ hκ
  have hI0 := hI
  obtain ⟨i1, i2, i3, i4, i5, i6, i7, i8, i9, i10, i11⟩ := hI
  obtain ⟨⟨n1, n2⟩, ⟨k1, k2⟩, hh, hRel, hok⟩ := i4
  have b17 : 0 ≤ m 17 0 ∧ m 17 0 ≤ 6 := i1 17 0
  have b171 : 0 ≤ m 17 1 ∧ m 17 1 ≤ 8 := i1 17 1
  have hf : ∀ p, p < n → m 20 p = -1 ∨ (0 ≤ m 20 p ∧ m 20 p < 8) := fun p hp => by
    have r1 := (hRel.1 p hp).2
    have r2 := (hok.1 p hp).2
    omega
  have e20 : ∀ c : Int, wIx (fun p => m 75 (p + 6)) c 0 n = wIx (m 20) c 0 n := fun c => wIx_congr n 0 (fun i _ h2 => ((hRel.1 i (by omega)).2).symm)
  have eo : bset (fun p => decide (m 75 (p + 6) = -1)) n = bset (fun p => decide (m 20 p = -1)) n := bset_congr n (fun i hi => by rw [(hRel.1 i hi).2])
  have eb : bset (fun c => !(wset (m 20) n).testBit c) k = bset (fun c : Nat => decide (wIx (m 20) (c : Int) 0 n = -1)) k := by
    refine bset_congr k (fun i _ => ?_)
    have h1 := wset_bit hf i n (Nat.le_refl n)
    by_cases q : wIx (m 20) (i : Int) 0 n = -1
    · rw [decide_eq_true q]
      have h2 := (wIx_none n 0).mp q
      cases hb : (wset (m 20) n).testBit i with
      | false => rfl
      | true =>
        obtain ⟨x, x1, x2⟩ := h1.mp hb
        exact absurd x2 (h2 x (by omega) (by omega))
    · rw [decide_eq_false q]
      cases hb : (wset (m 20) n).testBit i with
      | true => rfl
      | false =>
        refine absurd ((wIx_none n 0).mpr (fun x _ x1 x2 => ?_)) q
        rw [h1.mpr ⟨x, by omega, x2⟩] at hb
        cases hb
  -- the reference
  have ref : ∀ (M0 : zM) (D2 : Nat) (κ2 : Option zA → zM → Prop), zB M0 → Agree coreK m M0 → (∀ M1, zB M1 → Agree coreK m M1 → κ2 (some (zi (bset (fun c : Nat => decide (wIx (m 20) (c : Int) 0 n = -1)) k : Int))) M1) → T (D2 + 3) 260 (0, [(0, zr 74)], [], M0) κ2 := by
    intro M0 D2 κ2 hB0 hA0 hk
    refine zb260_0 hT hB0 (fun hz => ?_)
    have hA1 : Agree coreK m (zu M0 74 12 0) := hA0.trans (.of (L := [(74, some 12)]) (zFr.refl.set rfl) rfl)
    generalize zu M0 74 12 0 = M at hz hA1 ⊢
    have e4 : M 74 4 = (n : Int) := (hA1 74 4 rfl).trans n2
    have e6 : M 74 6 = (k : Int) := (hA1 74 6 rfl).trans k2
    have e75 : (fun p => M 75 (p + 6)) = fun p => m 75 (p + 6) := funext fun p => hA1 75 (p + 6) rfl
    have bl : ∀ t, t ≤ k → bset (fun c : Nat => decide (wIx (m 20) (c : Int) 0 n = -1)) t ≤ 255 := fun t ht => by
      have h1 := bset_lt (c := fun c : Nat => decide (wIx (m 20) (c : Int) 0 n = -1)) t
      have h2 : 2 ^ t ≤ 2 ^ 8 := Nat.pow_le_pow_right (by omega) (by omega)
      omega
    have ol : ∀ t, t ≤ n → bset (fun p => decide (m 75 (p + 6) = -1)) t ≤ 63 := fun t ht => by
      have h1 := bset_lt (c := fun p => decide (m 75 (p + 6) = -1)) t
      have h2 : 2 ^ t ≤ 2 ^ 6 := Nat.pow_le_pow_right (by omega) (by omega)
      omega
    have second : ∀ (j t : Nat), t + j = n → T (D2 + 3) 260 (50, [(0, zr 74), (1, zi (bset (fun c : Nat => decide (wIx (m 20) (c : Int) 0 n = -1)) k : Int)), (2, zi (bset (fun p => decide (m 75 (p + 6) = -1)) t : Int)), (3, zi (t : Int))], [], M) κ2 := by
      intro j
      induction j with
      | zero =>
        intro t ht
        have et : t = n := by omega
        subst et
        have := bl k (Nat.le_refl k)
        have := ol t (Nat.le_refl t)
        refine zb260_50 hT rfl hz (by omega) (by omega) (by omega) (fun _ hz2 => ?_) (fun q => by omega) (fun q => by omega)
        refine zb293_0 (D := D2 + 1) hT (by omega) ?_
        refine zb260_97 hT rfl hz2 (by omega) (by omega) (z_andB _ _) (by rw [zu_sm rfl]; omega) (fun hz3 => hk _ hz3 ?_)
        exact hA1.trans (.of (L := [(74, some 11), (81, none)]) (((((zFr.refl.set rfl).set rfl).set rfl).set rfl).set rfl) rfl)
      | succ j ih =>
        intro t ht
        have := bl k (Nat.le_refl k)
        have := ol t (by omega)
        have e7 : M 75 (t + 6) = m 75 (t + 6) := hA1 75 (t + 6) rfl
        refine zb260_50 hT rfl hz (by omega) (by omega) (by omega) (fun q => by omega) (fun _ q => ?_) (fun _ q => ?_)
        · rw [bset_skip0 (by omega) (by rw [e7] at q; simpa using q)]
          exact ih (t + 1) (by omega)
        · rw [bset_step (by omega) (by rw [e7] at q; simpa using q)]
          exact ih (t + 1) (by omega)
    have first : ∀ (j t : Nat), t + j = k → T (D2 + 3) 260 (11, [(0, zr 74), (1, zi (bset (fun c : Nat => decide (wIx (m 20) (c : Int) 0 n = -1)) t : Int)), (2, zi ((0 : Nat) : Int)), (3, zi (t : Int))], [], M) κ2 := by
      intro j
      induction j with
      | zero =>
        intro t ht
        have et : t = k := by omega
        subst et
        have := bl t (Nat.le_refl t)
        exact zb260_11 hT rfl hz (by omega) (by omega) (by omega) (fun _ => second n 0 (by omega)) (fun q => by omega)
      | succ j ih =>
        intro t ht
        have := bl t (by omega)
        refine zb260_11 hT rfl hz (by omega) (by omega) (by omega) (fun q => by omega) (fun _ => ?_)
        refine z_wearer (D := D2 + 1) hT hz (by omega) e4 ?_
        rw [e75, e20]
        have hr := wIx_rng (f := m 20) (c := (t : Int)) n 0
        refine zb260_29 hT rfl hz (by omega) (by omega) (by omega) (by omega) (fun q => ?_) (fun q => ?_)
        · rw [bset_skip0 (by omega) (by simpa using q)]
          exact ih (t + 1) (by omega)
        · rw [bset_step (by omega) (by simpa using q)]
          exact ih (t + 1) (by omega)
    exact first k 0 (by omega)
  -- the class
  have wl : ∀ t, t ≤ n → wset (m 20) t ≤ 255 := fun t ht => by
    have := wset_lt hf t ht
    omega
  have ol : ∀ t, t ≤ n → bset (fun p => decide (m 20 p = -1)) t ≤ 63 := fun t ht => by
    have h1 := bset_lt (c := fun p => decide (m 20 p = -1)) t
    have h2 : 2 ^ t ≤ 2 ^ 6 := Nat.pow_le_pow_right (by omega) (by omega)
    omega
  have cls : ∀ (j t : Nat), t + j = n → T (D + 2) 142 (6, [(0, zr 1), (1, zi (wset (m 20) t : Int)), (2, zi (bset (fun p => decide (m 20 p = -1)) t : Int)), (3, zi (t : Int))], [], m) κ := by
    intro j
    induction j with
    | zero =>
      intro t ht
      have et : t = n := by omega
      subst et
      have := wl t (Nat.le_refl t)
      have := ol t (Nat.le_refl t)
      refine zb142_6 hT rfl i1 (by omega) (by omega) (by omega) (fun _ => ?_) (fun q => by omega) (fun q => by omega)
      refine zb293_0 (D := D) hT (by omega) ?_
      refine zb142_67 hT rfl i1 (by omega) (by omega) (z_andB _ _) (fun hz => ?_)
      rw [k1, z_notE k (by omega) _ (by omega), eb]
      refine hκ _ _ (fun D2 κ2 h2 => ?_)
      exact ref _ D2 κ2 hz (.of (L := [(72, some 1), (73, none)]) (((zFr.refl.set rfl).set rfl).set rfl) rfl) (fun M1 hB3 hA3 => h2 _ _ (fun _ => rfl) ⟨t, k, Inv_fr hA3 hB3 hI0⟩)
    | succ j ih =>
      intro t ht
      have := wl t (by omega)
      have := ol t (by omega)
      refine zb142_6 hT rfl i1 (by omega) (by omega) (by omega) (fun q => by omega) (fun _ q => ?_) (fun _ q => ?_)
      · rw [wset_step hf (by omega) q, bset_skip (c := fun p => decide (m 20 p = -1)) (by simpa using q)]
        exact ih (t + 1) (by omega)
      · rw [bset_step (by omega) (by simpa using q), show wset (m 20) t = wset (m 20) (t + 1) by rw [wset, if_pos q]]
        exact ih (t + 1) (by omega)
  exact zb142_0 hT i1 (cls n 0 (by omega))
end ZIdle
end
-- 85.seen.lean.txt
section
/-! fines(), lags(), heights(): what THE LAW makes of the skirts seen. -/
theorem rowL13 : ∀ c j, rowW 13 c j = true → inL [(13, none)] c j = true := fun c j q => by
  have e := Nat.eq_of_beq_eq_true q
  subst e
  rfl
/-- the length that THE LAW asks of the skirt seen, so many weeks away -/
noncomputable def seL (m : zM) (i : Nat) (l : Int) : Int := LW m (m 18 (m 60 i).toNat) (m 60 i) (m 61 i).toNat (m 62 i + l)
theorem seLB {m : zM} {i : Nat} {l : Int} : 0 ≤ seL m i l ∧ seL m i l ≤ 99 := LWB
/-- all of the first so many -/
noncomputable def allB (c : Nat → Bool) : Nat → Bool
  | 0 => true
  | t + 1 => allB c t && c t
theorem allB_no {c : Nat → Bool} {i : Nat} (h : c i = false) : ∀ t, i < t → allB c t = false
  | 0, q => by omega
  | t + 1, q => by
    rw [allB]
    by_cases e : i = t
    · subst e
      rw [h, Bool.and_false]
    · rw [allB_no h t (by omega), Bool.false_and]
noncomputable def fine1 (f x v : Int) : Int := if x - v < 0 then f * (-(x - v) + 1) else if x - v = 0 then 0 else f * ((x - v) + 1)
theorem fine1B {f x v : Int} (hf : 0 ≤ f ∧ f ≤ 99) (hx : 0 ≤ x ∧ x ≤ 99) (hv : 0 ≤ v ∧ v ≤ 99) : 0 ≤ fine1 f x v ∧ fine1 f x v ≤ 9900 := by
  have key : ∀ y : Int, 0 ≤ y → y ≤ 100 → 0 ≤ f * y ∧ f * y ≤ 9900 := fun y y1 y2 => by
    have h1 := Int.mul_nonneg hf.1 y1
    have h2 : f * y ≤ 99 * 100 := Int.mul_le_mul hf.2 y2 y1 (by omega)
    omega
  unfold fine1
  by_cases q : x - v < 0
  · rw [if_pos q]
    exact key _ (by omega) (by omega)
  · rw [if_neg q]
    by_cases q2 : x - v = 0
    · rw [if_pos q2]
      omega
    · rw [if_neg q2]
      exact key _ (by omega) (by omega)
noncomputable def fineS (f : Int) (x v : Nat → Int) : Nat → Int
  | 0 => 0
  | t + 1 => fineS f x v t + fine1 f (x t) (v t)
theorem fineSB {f : Int} {x v : Nat → Int} (hf : 0 ≤ f ∧ f ≤ 99) (hx : ∀ i, 0 ≤ x i ∧ x i ≤ 99) (hv : ∀ i, 0 ≤ v i ∧ v i ≤ 99) : ∀ t : Nat, 0 ≤ fineS f x v t ∧ fineS f x v t ≤ 9900 * t
  | 0 => by
    rw [fineS]
    omega
  | t + 1 => by
    have h1 := fineSB hf hx hv t
    have h2 := fine1B hf (hx t) (hv t)
    rw [fineS]
    omega
section ZSeen
variable {T : Nat → Nat → zG → (Option zA → zM → Prop) → Prop} {B : Int}
theorem z_seenC (hT : zRules T) {D : Nat} {κ : Option zA → zM → Prop} {m M : zM} {sc : zSc} {n k i : Nat} {l : Int} (hI : Inv B sc n k m) (hBM : zB M) (hF : zFr (inL [(13, none)]) m M) (hi : (i : Int) < m 59 4) (hl : 0 ≤ m 62 i + l) (hl2 : l ≤ 13)
    (hk : ∀ M1, zB M1 → zFr (inL [(13, none)]) m M1 → κ (some (zi (seL m i l))) M1) : T (D + 4) 169 (0, [(0, zr 1), (1, zi (M 60 i)), (2, zi (M 61 i)), (3, zi (M 62 i + l))], [], M) κ := by
  have b17 : 0 ≤ m 17 0 ∧ m 17 0 ≤ 6 := hI.1 17 0
  have b60 : 0 ≤ m 60 i ∧ m 60 i ≤ 5 := hI.1 60 i
  have b61 : 0 ≤ m 61 i ∧ m 61 i ≤ 3 := hI.1 61 i
  have b62 : 0 ≤ m 62 i ∧ m 62 i ≤ 9999 := hI.1 62 i
  have n1 := hI.2.2.2.1.1.1
  have s60 := (hI.2.2.2.2.2.2.2.1.2 i hi).2.2.2.2
  have hA : Agree KL m M := .of hF rfl
  rw [hF 60 i rfl, hF 61 i rfl, hF 62 i rfl]
  obtain ⟨a, ha⟩ : ∃ a : Nat, m 60 i = (a : Int) := ⟨(m 60 i).toNat, by omega⟩
  obtain ⟨b, hb⟩ : ∃ b : Nat, m 61 i = (b : Int) := ⟨(m 61 i).toNat, by omega⟩
  have hh := (hI.2.2.2.1.2.2.1 a (by omega)).2
  have e : LW M (M 18 a) (a : Int) b (m 62 i + l) = seL m i l := by
    unfold seL
    rw [ha, hb, Int.toNat_natCast, Int.toNat_natCast, hA.law.2, hF 18 a rfl]
  rw [ha, hb]
  refine z_lawAt hT hBM (by omega) (by rw [hF 18 a rfl]; omega) (by omega) (by omega) (hA.law.1 hI.2.2.1).1 (fun M1 hB1 hF1 => ?_)
  rw [e]
  exact hk M1 hB1 (hF.trans (hF1.sub rowL13))
theorem z_seenR (hT : zRules T) {D : Nat} {κ : Option zA → zM → Prop} {m M : zM} {sc : zSc} {n k i : Nat} {l w : Int} (hI : Inv B sc n k m) (hBM : zB M) (hA : Agree coreK m M) (hi : (i : Int) < m 59 4) (hw : w = M 99 (4 * i + 2) + l) (hl : 0 ≤ w) (hl2 : l ≤ 13)
    (hk : ∀ M1, zB M1 → Agree coreK m M1 → κ (some (zi (seL m i l))) M1) : T (D + 170) 215 (0, [(0, zr 74), (1, zi (M 99 (4 * i))), (2, zi (M 99 (4 * i + 1))), (3, zi w)], [], M) κ := by
  have b17 : 0 ≤ m 17 0 ∧ m 17 0 ≤ 6 := hI.1 17 0
  have b60 : 0 ≤ m 60 i ∧ m 60 i ≤ 5 := hI.1 60 i
  have b61 : 0 ≤ m 61 i ∧ m 61 i ≤ 3 := hI.1 61 i
  have b62 : 0 ≤ m 62 i ∧ m 62 i ≤ 9999 := hI.1 62 i
  have n1 := hI.2.2.2.1.1.1
  obtain ⟨s0, s1, s2, s3, s4⟩ := hI.2.2.2.2.2.2.2.1.2 i hi
  rw [hA 99 (4 * i + 2) rfl, s2] at hw
  rw [hA 99 (4 * i) rfl, hA 99 (4 * i + 1) rfl, s0, s1]
  obtain ⟨a, ha⟩ : ∃ a : Nat, m 60 i = (a : Int) := ⟨(m 60 i).toNat, by omega⟩
  obtain ⟨b, hb⟩ : ∃ b : Nat, m 61 i = (b : Int) := ⟨(m 61 i).toNat, by omega⟩
  have hh := hI.2.2.2.1.2.2.1 a (by omega)
  have hAL : Agree KL m M := hA.sub (fun q hq => List.mem_append.mpr (Or.inr (List.mem_append.mpr (Or.inl hq))))
  have e : LW M (M 78 a) (a : Int) b w = seL m i l := by
    unfold seL
    rw [ha, hb, Int.toNat_natCast, Int.toNat_natCast, hAL.law.2, hA 78 a rfl, hh.1, hw]
  rw [ha, hb]
  refine z_lawOf hT hBM (by omega) (by omega) (by omega) (hAL.law.1 hI.2.2.1) (fun M1 hB1 hF1 => ?_)
  rw [e]
  exact hk M1 hB1 (hA.trans (.of (hF1.sub lbWL) rfl))
theorem w_fines (hT : zRules T) {f : Int} (hf : isI f) : Way T 150 275 [(0, zr 1), (1, zi f)] [(0, zr 74), (1, zi f)] 7 171 B B True := by
  rintro D m sc ⟨n, k, hI⟩ κ hκ
  have hI0 := hI
  obtain ⟨i1, i2, i3, i4, i5, i6, i7, i8, i9, i10, i11⟩ := hI
  have hB1 : zB (zu m 74 12 0) := zB_u i1 trivial
  have hA12 : Agree coreK m (zu m 74 12 0) := .of (L := [(74, some 12)]) (zFr.refl.set rfl) rfl
  have b59 : 0 ≤ m 59 4 ∧ m 59 4 ≤ 12 := i1 59 4
  have no : ¬ (0 ≤ f ∧ f ≤ 99) → κ (some (zi (-1))) m := by
    intro hno
    refine hκ _ _ (fun D2 κ2 h2 => ?_)
    have fin : κ2 (some (zi (-1))) (zu m 74 12 0) := h2 _ _ (fun _ => rfl) ⟨n, k, Inv_fr hA12 hB1 hI0⟩
    exact zb275_0 (D := D2 + 167) hT i1 hf (fun _ _ => fin) (fun _ _ _ => fin) (fun q1 q2 => absurd ⟨by omega, by omega⟩ hno)
  refine zb150_0 hT i1 hf (fun _ => no (by omega)) (fun q1 q2 => ?_) (fun _ _ => no (by omega))
  obtain ⟨N, hN⟩ : ∃ N : Nat, m 59 4 = (N : Int) := ⟨(m 59 4).toNat, by omega⟩
  have bv : ∀ i, 0 ≤ m 63 i ∧ m 63 i ≤ 99 := fun i => i1 63 i
  have sB := fun t => fineSB (f := f) (x := m 63) (v := fun i => seL m i 0) (by omega) bv (fun i => seLB) t
  have oB : ∀ t, t ≤ N → bset (fun i => decide (¬ m 63 i - seL m i 0 = 0)) t ≤ 4095 := fun t ht => by
    have h1 := bset_lt (c := fun i => decide (¬ m 63 i - seL m i 0 = 0)) t
    have h2 : 2 ^ t ≤ 2 ^ 12 := Nat.pow_le_pow_right (by omega) (by omega)
    omega
  have ref : ∀ (j t : Nat) (M : zM) (D2 : Nat) (κ2 : Option zA → zM → Prop), t + j = N → zB M → Agree coreK m M → (∀ M1, zB M1 → Agree coreK m M1 → κ2 (some (zi (fineS f (m 63) (fun i => seL m i 0) N))) M1) → T (D2 + 171) 275 (24, [(0, zr 74), (1, zi f), (2, zi (fineS f (m 63) (fun i => seL m i 0) t)), (3, zi (bset (fun i => decide (¬ m 63 i - seL m i 0 = 0)) t : Int)), (4, zi (t : Int))], [], M) κ2 := by
    intro j
    induction j with
    | zero =>
      intro t M D2 κ2 ht hBM hA hk
      have et : t = N := by omega
      subst et
      have := oB t (Nat.le_refl t)
      have := sB t
      have e52 : M 74 52 = (t : Int) := by rw [hA 74 52 rfl, i8.1, hN]
      refine zb275_24 (D := D2 + 167) hT rfl hBM (by omega) (by omega) (by omega) (by omega) (fun _ hz => ?_) (fun q => by omega)
      exact hk _ hz (hA.trans (.of (L := [(74, some 11), (81, none)]) (((zFr.refl.set rfl).set rfl).set rfl) rfl))
    | succ j ih =>
      intro t M D2 κ2 ht hBM hA hk
      have := oB t (by omega)
      have := sB t
      have e52 : M 74 52 = (N : Int) := by rw [hA 74 52 rfl, i8.1, hN]
      have b62 : 0 ≤ m 62 t ∧ m 62 t ≤ 9999 := i1 62 t
      have e99 : M 99 (4 * t + 3) = m 63 t := by rw [hA 99 (4 * t + 3) rfl, (i8.2 t (by omega)).2.2.2.1]
      have e992 : M 99 (4 * t + 2) = m 62 t := by rw [hA 99 (4 * t + 2) rfl, (i8.2 t (by omega)).2.2.1]
      refine zb275_24 (D := D2 + 167) hT rfl hBM (by omega) (by omega) (by omega) (by omega) (fun q => by omega) (fun _ => ?_)
      refine z_seenR (l := 0) hT hI0 hBM hA (by omega) (by omega) (by omega) (by omega) (fun M1 hB2 hA1 => ?_)
      rw [e99]
      refine zb275_79 (D := D2 + 167) hT rfl hB2 (by omega) (by omega) (by omega) (by omega) seLB (bv t) (fun a1 a2 => ?_) (fun a1 a2 => ?_) (fun a1 => ?_)
      · rw [bset_step (by omega) (decide_eq_true a2), show fineS f (m 63) (fun i => seL m i 0) t + (f * (m 63 t - seL m t 0) + f) = fineS f (m 63) (fun i => seL m i 0) (t + 1) by
          rw [fineS, fine1, if_neg a1, if_neg a2, Int.mul_add, Int.mul_one]]
        exact ih (t + 1) M1 D2 κ2 (by omega) hB2 hA1 hk
      · rw [bset_skip (c := fun i => decide (¬ m 63 i - seL m i 0 = 0)) (by simpa using a2), show fineS f (m 63) (fun i => seL m i 0) t = fineS f (m 63) (fun i => seL m i 0) (t + 1) by
          rw [fineS, fine1, if_neg a1, if_pos a2, Int.add_zero]]
        exact ih (t + 1) M1 D2 κ2 (by omega) hB2 hA1 hk
      · rw [bset_step (by omega) (decide_eq_true (show ¬ m 63 t - seL m t 0 = 0 by omega)), show fineS f (m 63) (fun i => seL m i 0) t + (f * (-(m 63 t - seL m t 0)) + f) = fineS f (m 63) (fun i => seL m i 0) (t + 1) by
          rw [fineS, fine1, if_pos a1, Int.mul_add, Int.mul_one]]
        exact ih (t + 1) M1 D2 κ2 (by omega) hB2 hA1 hk
  have cls : ∀ (j t : Nat) (M : zM), t + j = N → zB M → zFr (inL [(13, none)]) m M → T (D + 7) 150 (19, [(0, zr 1), (1, zi f), (2, zi (fineS f (m 63) (fun i => seL m i 0) t)), (3, zi (bset (fun i => decide (¬ m 63 i - seL m i 0 = 0)) t : Int)), (4, zi (t : Int))], [], M) κ := by
    intro j
    induction j with
    | zero =>
      intro t M ht hBM hF
      have et : t = N := by omega
      subst et
      have := oB t (Nat.le_refl t)
      have := sB t
      have e59 : M 59 4 = m 59 4 := hF 59 4 rfl
      refine zb150_19 hT rfl hBM (by omega) (by omega) (by omega) (by omega) (fun _ hz => ?_) (fun q => by omega)
      refine hκ _ _ (fun D2 κ2 h2 => ?_)
      have hA : Agree coreK m (zu (zu M 72 1 1) 73 0 (bset (fun i => decide (¬ m 63 i - seL m i 0 = 0)) t : Int)) := (Agree.of hF rfl).trans (.of (L := [(72, some 1), (73, none)]) ((zFr.refl.set rfl).set rfl) rfl)
      refine zb275_0 (D := D2 + 167) hT hz hf (fun x => by omega) (fun _ x => by omega) (fun _ _ hz2 => ?_)
      exact ref t 0 _ D2 κ2 (by omega) hz2 (hA.trans (.of (L := [(74, some 12)]) (zFr.refl.set rfl) rfl)) (fun M1 hB3 hA3 => h2 _ _ (fun _ => rfl) ⟨n, k, Inv_fr hA3 hB3 hI0⟩)
    | succ j ih =>
      intro t M ht hBM hF
      have := oB t (by omega)
      have := sB t
      have e59 : M 59 4 = m 59 4 := hF 59 4 rfl
      have b62 : 0 ≤ m 62 t ∧ m 62 t ≤ 9999 := i1 62 t
      refine zb150_19 hT rfl hBM (by omega) (by omega) (by omega) (by omega) (fun q => by omega) (fun _ => ?_)
      refine zb182_0 hT hBM (by omega) (by omega) ?_
      refine z_seenC (D := D + 1) hT hI0 hBM hF (by omega) (by omega) (by omega) (fun M1 hB2 hF1 => ?_)
      refine zb182_33 hT rfl seLB ?_
      rw [hF 63 t rfl]
      refine zb150_48 hT rfl hB2 (by omega) (by omega) (by omega) (by omega) seLB (bv t) (fun a1 a2 => ?_) (fun a1 a2 => ?_) (fun a1 => ?_)
      · rw [bset_skip (c := fun i => decide (¬ m 63 i - seL m i 0 = 0)) (by simpa using a2), show fineS f (m 63) (fun i => seL m i 0) t = fineS f (m 63) (fun i => seL m i 0) (t + 1) by
          rw [fineS, fine1, if_neg a1, if_pos a2, Int.add_zero]]
        exact ih (t + 1) M1 (by omega) hB2 hF1
      · rw [bset_step (by omega) (decide_eq_true a2), show fineS f (m 63) (fun i => seL m i 0) t + f * (m 63 t - seL m t 0 + 1) = fineS f (m 63) (fun i => seL m i 0) (t + 1) by
          rw [fineS, fine1, if_neg a1, if_neg a2]]
        exact ih (t + 1) M1 (by omega) hB2 hF1
      · rw [bset_step (by omega) (decide_eq_true (show ¬ m 63 t - seL m t 0 = 0 by omega)), show fineS f (m 63) (fun i => seL m i 0) t + f * (-(m 63 t - seL m t 0) + 1) = fineS f (m 63) (fun i => seL m i 0) (t + 1) by
          rw [fineS, fine1, if_pos a1]]
        exact ih (t + 1) M1 (by omega) hB2 hF1
  exact cls N 0 m (by omega) i1 zFr.refl
end ZSeen
end
-- 86.lags.lean.txt
section
/-! lags(). -/
section ZLags
variable {T : Nat → Nat → zG → (Option zA → zM → Prop) → Prop} {B : Int}
/-- so many weeks away, THE LAW asks for the skirt seen -/
noncomputable def lgB (m : zM) (l : Int) (i : Nat) : Bool := decide (0 ≤ m 62 i + l ∧ seL m i l = m 63 i)
theorem z_lagC (hT : zRules T) {D : Nat} {κ : Option zA → zM → Prop} {m M : zM} {sc : zSc} {n k N : Nat} {l : Int} (hI : Inv B sc n k m) (hBM : zB M) (hF : zFr (inL [(13, none)]) m M) (hN : m 59 4 = (N : Int)) (hl : -13 ≤ l ∧ l ≤ 13)
    (hk : ∀ M1, zB M1 → zFr (inL [(13, none)]) m M1 → κ (some (zi (if allB (lgB m l) N then 1 else 0))) M1) : T (D + 7) 183 (0, [(0, zr 1), (1, zi l)], [], M) κ := by
  have i1 := hI.1
  have b59 : 0 ≤ m 59 4 ∧ m 59 4 ≤ 12 := i1 59 4
  have key : ∀ (j t : Nat) (M : zM), t + j = N → zB M → zFr (inL [(13, none)]) m M → allB (lgB m l) t = true → T (D + 7) 183 (2, [(0, zr 1), (1, zi l), (2, zi (t : Int))], [], M) κ := by
    intro j
    induction j with
    | zero =>
      intro t M ht hBM hF ha
      have et : t = N := by omega
      subst et
      have e59 : M 59 4 = m 59 4 := hF 59 4 rfl
      have hk2 := hk M hBM hF
      rw [ha, if_pos rfl] at hk2
      exact zb183_2 hT rfl hBM hl (by omega) (fun _ => hk2) (fun q => by omega) (fun q => by omega)
    | succ j ih =>
      intro t M ht hBM hF ha
      have e59 : M 59 4 = m 59 4 := hF 59 4 rfl
      have e62 : M 62 t = m 62 t := hF 62 t rfl
      have no : ∀ M1, zB M1 → zFr (inL [(13, none)]) m M1 → ¬ (0 ≤ m 62 t + l ∧ seL m t l = m 63 t) → κ (some (zi 0)) M1 := fun M1 hB1 hF1 q => by
        have hk2 := hk M1 hB1 hF1
        rw [allB_no (i := t) (c := lgB m l) (decide_eq_false q) N (by omega), if_neg (by simp)] at hk2
        exact hk2
      refine zb183_2 hT rfl hBM hl (by omega) (fun q => by omega) (fun _ q => no M hBM hF (by omega)) (fun _ q => ?_)
      have e61 : M 62 t + l = m 62 t + l := by omega
      refine zb182_0 hT hBM (by omega) (by omega) ?_
      refine z_seenC (D := D + 1) hT hI hBM hF (by omega) (by omega) (by omega) (fun M1 hB2 hF1 => ?_)
      refine zb182_33 hT rfl seLB ?_
      refine zb183_33 hT rfl hB2 hl (by omega) seLB (fun q2 => ?_) (fun q2 => ?_)
      · rw [hF1 63 t rfl] at q2
        exact ih (t + 1) M1 (by omega) hB2 hF1 (by rw [allB, ha, lgB, decide_eq_true ⟨by omega, q2⟩, Bool.and_self])
      · rw [hF1 63 t rfl] at q2
        exact no M1 hB2 hF1 (fun x => q2 x.2)
  exact zb183_0 hT hBM hl (key N 0 M (by omega) hBM hF rfl)
theorem w_lags (hT : zRules T) : Way T 151 276 [(0, zr 1)] [(0, zr 74)] 8 171 B B True := by
  rintro D m sc ⟨n, k, hI⟩ κ hκ
  have hI0 := hI
  obtain ⟨i1, i2, i3, i4, i5, i6, i7, i8, i9, i10, i11⟩ := hI
  have b59 : 0 ≤ m 59 4 ∧ m 59 4 ≤ 12 := i1 59 4
  obtain ⟨N, hN⟩ : ∃ N : Nat, m 59 4 = (N : Int) := ⟨(m 59 4).toNat, by omega⟩
  have oB : ∀ t, t ≤ 27 → bset (fun x => allB (lgB m ((x : Int) - 13)) N) t ≤ 134217727 := fun t ht => by
    have h1 := bset_lt (c := fun x : Nat => allB (lgB m ((x : Int) - 13)) N) t
    have h2 : 2 ^ t ≤ 2 ^ 27 := Nat.pow_le_pow_right (by omega) (by omega)
    omega
  -- the reference's inner loop, from a state with s = what is so far
  have inner : ∀ (x D2 : Nat) (κ2 : Option zA → zM → Prop), x ≤ 26 → (∀ M1, zB M1 → Agree coreK m M1 → T (D2 + 171) 276 (10, [(0, zr 74), (1, zi (bset (fun x => allB (lgB m ((x : Int) - 13)) N) (x + 1) : Int)), (2, zi ((x : Int) - 13 + 1))], [], M1) κ2) →
      ∀ (j t : Nat) (M : zM), t + j = N → zB M → Agree coreK m M → T (D2 + 171) 276 (21, [(0, zr 74), (1, zi (bset (fun x => allB (lgB m ((x : Int) - 13)) N) x : Int)), (2, zi ((x : Int) - 13)), (3, zi (if allB (lgB m ((x : Int) - 13)) t then 1 else 0)), (4, zi (t : Int))], [], M) κ2 := by
    intro x D2 κ2 hx hk j
    have := oB x (by omega)
    have stop : ∀ M1, zB M1 → Agree coreK m M1 → allB (lgB m ((x : Int) - 13)) N = false → T (D2 + 171) 276 (10, [(0, zr 74), (1, zi (z_or (bset (fun x => allB (lgB m ((x : Int) - 13)) N) x : Int) 0)), (2, zi ((x : Int) - 13 + 1))], [], M1) κ2 := fun M1 hB1 hA1 q => by
      rw [bset_skip0 (c := fun x : Nat => allB (lgB m ((x : Int) - 13)) N) (by omega) (by rw [q]; simp)]
      exact hk M1 hB1 hA1
    induction j with
    | zero =>
      intro t M ht hBM hA
      have et : t = N := by omega
      subst et
      have e52 : M 74 52 = (t : Int) := by rw [hA 74 52 rfl, i8.1, hN]
      by_cases ha : allB (lgB m ((x : Int) - 13)) t = true
      · rw [if_pos ha]
        refine zb276_21 (D := D2 + 167) hT rfl hBM (by omega) (by omega) (by omega) (by omega) (fun _ q => by omega) (fun _ _ => ?_) (fun q => by omega) (fun q => by omega) (fun q => by omega)
        rw [show (13 : Int) + ((x : Int) - 13) = (x : Int) by omega, bset_step (c := fun x : Nat => allB (lgB m ((x : Int) - 13)) t) (by omega) ha]
        exact hk M hBM hA
      · rw [if_neg ha]
        refine zb276_21 (D := D2 + 167) hT rfl hBM (by omega) (by omega) (by omega) (by omega) (fun _ _ => stop M hBM hA (by simpa using ha)) (fun _ q => absurd rfl q) (fun q => by omega) (fun q => by omega) (fun q => by omega)
    | succ j ih =>
      intro t M ht hBM hA
      have e52 : M 74 52 = (N : Int) := by rw [hA 74 52 rfl, i8.1, hN]
      by_cases ha : allB (lgB m ((x : Int) - 13)) t = true
      · rw [if_pos ha]
        have e992 : M 99 (4 * t + 2) = m 62 t := by rw [hA 99 (4 * t + 2) rfl, (i8.2 t (by omega)).2.2.1]
        have step : allB (lgB m ((x : Int) - 13)) (t + 1) = lgB m ((x : Int) - 13) t := by rw [allB, ha, Bool.true_and]
        refine zb276_21 (D := D2 + 167) hT rfl hBM (by omega) (by omega) (by omega) (by omega) (fun q => by omega) (fun q => by omega) (fun _ q => by omega) (fun _ _ q => ?_) (fun _ _ q => ?_)
        · have h1 := ih (t + 1) M (by omega) hBM hA
          rw [step, lgB, decide_eq_false (by omega), if_neg (by simp)] at h1
          exact h1
        · refine z_seenR (l := (x : Int) - 13) hT hI0 hBM hA (by omega) (by omega) (by omega) (by omega) (fun M1 hB2 hA1 => ?_)
          have h1 := ih (t + 1) M1 (by omega) hB2 hA1
          have e99 : M1 99 (4 * t + 3) = m 63 t := by rw [hA1 99 (4 * t + 3) rfl, (i8.2 t (by omega)).2.2.2.1]
          refine zb276_80 (D := D2 + 167) hT rfl hB2 (by omega) (by omega) (by omega) seLB (fun q2 => ?_) (fun q2 => ?_)
          · rw [step, lgB, decide_eq_false (fun y => q2 (by rw [e99]; exact y.2)), if_neg (by simp)] at h1
            exact h1
          · rw [step, lgB, decide_eq_true ⟨by omega, by rw [← e99]; exact q2⟩, if_pos rfl] at h1
            exact h1
      · rw [if_neg ha]
        have hN2 : allB (lgB m ((x : Int) - 13)) N = false := by
          have : ∀ j t, allB (lgB m ((x : Int) - 13)) t = false → allB (lgB m ((x : Int) - 13)) (t + j) = false := by
            intro j
            induction j with
            | zero => exact fun t h => h
            | succ j ih2 =>
              intro t h
              show (allB (lgB m ((x : Int) - 13)) (t + j) && lgB m ((x : Int) - 13) (t + j)) = false
              rw [ih2 t h, Bool.false_and]
          have h1 := this (j + 1) t (by simpa using ha)
          rw [show t + (j + 1) = N by omega] at h1
          exact h1
        exact zb276_21 (D := D2 + 167) hT rfl hBM (by omega) (by omega) (by omega) (by omega) (fun q => by omega) (fun q => by omega) (fun _ _ => stop M hBM hA hN2) (fun _ q => absurd rfl q) (fun _ q => absurd rfl q)
  have ref : ∀ (j x : Nat) (M : zM) (D2 : Nat) (κ2 : Option zA → zM → Prop), x + j = 27 → zB M → Agree coreK m M → (∀ M1, zB M1 → Agree coreK m M1 → κ2 (some (zi (bset (fun x => allB (lgB m ((x : Int) - 13)) N) 27 : Int))) M1) → T (D2 + 171) 276 (10, [(0, zr 74), (1, zi (bset (fun x => allB (lgB m ((x : Int) - 13)) N) x : Int)), (2, zi ((x : Int) - 13))], [], M) κ2 := by
    intro j
    induction j with
    | zero =>
      intro x M D2 κ2 hx hBM hA hk
      have ex : x = 27 := by omega
      subst ex
      have := oB 27 (by omega)
      exact zb276_10 (D := D2 + 167) hT rfl hBM (by omega) (by omega) (fun _ => hk M hBM hA) (fun q => by omega)
    | succ j ih =>
      intro x M D2 κ2 hx hBM hA hk
      have := oB x (by omega)
      refine zb276_10 (D := D2 + 167) hT rfl hBM (by omega) (by omega) (fun q => by omega) (fun _ => ?_)
      refine inner x D2 κ2 (by omega) (fun M1 hB1 hA1 => ?_) N 0 M (by omega) hBM hA
      have h1 := ih (x + 1) M1 D2 κ2 (by omega) hB1 hA1 hk
      rw [show ((x + 1 : Nat) : Int) - 13 = (x : Int) - 13 + 1 by omega] at h1
      exact h1
  have cls : ∀ (j x : Nat) (M : zM), x + j = 27 → zB M → zFr (inL [(13, none)]) m M → T (D + 8) 151 (5, [(0, zr 1), (1, zi (bset (fun x => allB (lgB m ((x : Int) - 13)) N) x : Int)), (2, zi ((x : Int) - 13))], [], M) κ := by
    intro j
    induction j with
    | zero =>
      intro x M hx hBM hF
      have ex : x = 27 := by omega
      subst ex
      have := oB 27 (by omega)
      have hA : Agree coreK m M := .of hF rfl
      refine zb151_5 hT rfl hBM (by omega) (by omega) (fun _ => hκ _ _ (fun D2 κ2 h2 => ?_)) (fun q => by omega)
      refine zb276_0 (D := D2 + 167) hT hBM (fun hz => ?_)
      exact ref 27 0 _ D2 κ2 (by omega) hz (hA.trans (.of (L := [(74, some 12)]) (zFr.refl.set rfl) rfl)) (fun M1 hB3 hA3 => h2 _ _ (fun _ => rfl) ⟨n, k, Inv_fr hA3 hB3 hI0⟩)
    | succ j ih =>
      intro x M hx hBM hF
      have := oB x (by omega)
      refine zb151_5 hT rfl hBM (by omega) (by omega) (fun q => by omega) (fun _ => ?_)
      refine z_lagC hT hI0 hBM hF hN (by omega) (fun M1 hB1 hF1 => ?_)
      have h1 := ih (x + 1) M1 (by omega) hB1 hF1
      rw [show ((x + 1 : Nat) : Int) - 13 = (x : Int) - 13 + 1 by omega] at h1
      by_cases ha : allB (lgB m ((x : Int) - 13)) N = true
      · rw [if_pos ha]
        refine zb151_16 hT rfl hB1 (by omega) (by omega) (by omega) (fun q => by omega) (fun _ => ?_)
        rw [show (x : Int) - 13 + 13 = (x : Int) by omega, bset_step (c := fun x : Nat => allB (lgB m ((x : Int) - 13)) N) (by omega) ha]
        exact h1
      · rw [if_neg ha]
        refine zb151_16 hT rfl hB1 (by omega) (by omega) (by omega) (fun _ => ?_) (fun q => absurd rfl q)
        rw [bset_skip (c := fun x : Nat => allB (lgB m ((x : Int) - 13)) N) ha]
        exact h1
  exact zb151_0 hT i1 (cls 27 0 m (by omega) i1 zFr.refl)
end ZLags
end
-- 87.heights.lean.txt
section
/-! heights(). -/
section ZHeights
variable {T : Nat → Nat → zG → (Option zA → zM → Prop) → Prop} {B : Int}
/-- this height would explain the skirt seen, if it is this person's -/
noncomputable def hgB (m : zM) (p h : Nat) (i : Nat) : Bool := decide (m 60 i = (p : Int) → LW m (h : Int) (p : Int) (m 61 i).toNat (m 62 i) = m 63 i)
/-- number, first and last of the heights below h that explain all -/
noncomputable def hgS (c : Nat → Bool) : Nat → Nat × Int × Int
  | 0 => (0, -1, -1)
  | h + 1 => if h = 0 then (0, -1, -1) else if c h then ((hgS c h).1 + 1, if (hgS c h).1 = 0 then (h : Int) else (hgS c h).2.1, (h : Int)) else hgS c h
theorem hgSB {c : Nat → Bool} : ∀ h : Nat, (hgS c h).1 ≤ h - 1 ∧ (-1 ≤ (hgS c h).2.1 ∧ (hgS c h).2.1 < (h : Int)) ∧ (-1 ≤ (hgS c h).2.2 ∧ (hgS c h).2.2 < (h : Int)) ∧ ((hgS c h).1 = 0 ↔ (hgS c h).2.1 = -1)
  | 0 => by
    rw [hgS]
    exact ⟨Nat.le_refl _, ⟨by decide, by decide⟩, ⟨by decide, by decide⟩, ⟨fun _ => rfl, fun _ => rfl⟩⟩
  | h + 1 => by
    obtain ⟨h1, h2, h3, h4⟩ := hgSB (c := c) h
    rw [hgS]
    by_cases q0 : h = 0
    · rw [if_pos q0]
      exact ⟨by omega, ⟨by decide, by dsimp only; omega⟩, ⟨by decide, by dsimp only; omega⟩, ⟨fun _ => rfl, fun _ => rfl⟩⟩
    · rw [if_neg q0]
      by_cases q1 : c h = true
      · rw [if_pos q1]
        by_cases q2 : (hgS c h).1 = 0
        · rw [if_pos q2]
          dsimp only
          exact ⟨by omega, by omega, by omega, by omega⟩
        · rw [if_neg q2]
          dsimp only
          exact ⟨by omega, by omega, by omega, by omega⟩
      · rw [if_neg q1]
        exact ⟨by omega, by omega, by omega, h4⟩
theorem hgS_yes {c : Nat → Bool} {h : Nat} (h0 : 1 ≤ h) (q : c h = true) : hgS c (h + 1) = ((hgS c h).1 + 1, if (hgS c h).1 = 0 then (h : Int) else (hgS c h).2.1, (h : Int)) := by
  rw [hgS, if_neg (by omega), if_pos q]
theorem hgS_no {c : Nat → Bool} {h : Nat} (h0 : 1 ≤ h) (q : c h = false) : hgS c (h + 1) = hgS c h := by
  rw [hgS, if_neg (by omega), if_neg (by rw [q]; simp)]
theorem z_heightC (hT : zRules T) {D : Nat} {κ : Option zA → zM → Prop} {m M : zM} {sc : zSc} {n k N p h : Nat} (hI : Inv B sc n k m) (hBM : zB M) (hF : zFr (inL [(13, none)]) m M) (hN : m 59 4 = (N : Int)) (hp : p < n) (hh : 1 ≤ h ∧ h ≤ 99)
    (hk : ∀ M1, zB M1 → zFr (inL [(13, none)]) m M1 → κ (some (zi (if allB (hgB m p h) N then 1 else 0))) M1) : T (D + 5) 184 (0, [(0, zr 1), (1, zi (p : Int)), (2, zi (h : Int))], [], M) κ := by
  have i1 := hI.1
  have b17 : 0 ≤ m 17 0 ∧ m 17 0 ≤ 6 := i1 17 0
  have n1 := hI.2.2.2.1.1.1
  have b59 : 0 ≤ m 59 4 ∧ m 59 4 ≤ 12 := i1 59 4
  have key : ∀ (j t : Nat) (M : zM), t + j = N → zB M → zFr (inL [(13, none)]) m M → allB (hgB m p h) t = true → T (D + 5) 184 (2, [(0, zr 1), (1, zi (p : Int)), (2, zi (h : Int)), (3, zi (t : Int))], [], M) κ := by
    intro j
    induction j with
    | zero =>
      intro t M ht hBM hF ha
      have et : t = N := by omega
      subst et
      have e59 : M 59 4 = m 59 4 := hF 59 4 rfl
      have hk2 := hk M hBM hF
      rw [ha, if_pos rfl] at hk2
      exact zb184_2 hT rfl hBM (by omega) (by omega) (by omega) (fun _ => hk2) (fun q => by omega) (fun q => by omega)
    | succ j ih =>
      intro t M ht hBM hF ha
      have e59 : M 59 4 = m 59 4 := hF 59 4 rfl
      have e60 : M 60 t = m 60 t := hF 60 t rfl
      have b61 : 0 ≤ m 61 t ∧ m 61 t ≤ 3 := i1 61 t
      have b62 : 0 ≤ m 62 t ∧ m 62 t ≤ 9999 := i1 62 t
      refine zb184_2 hT rfl hBM (by omega) (by omega) (by omega) (fun q => by omega) (fun _ q => ?_) (fun _ q => ?_)
      · exact ih (t + 1) M (by omega) hBM hF (by rw [allB, ha, hgB, decide_eq_true (fun x => absurd x (by omega)), Bool.and_self])
      · have hA : Agree KL m M := .of hF rfl
        rw [hF 61 t rfl, hF 62 t rfl]
        obtain ⟨b, hb⟩ : ∃ b : Nat, m 61 t = (b : Int) := ⟨(m 61 t).toNat, by omega⟩
        have e : LW M (h : Int) (p : Int) b (m 62 t) = LW m (h : Int) (p : Int) (m 61 t).toNat (m 62 t) := by
          rw [hb, Int.toNat_natCast, hA.law.2]
        rw [hb]
        refine z_lawFor (D := D + 1) hT hBM (by omega) (by omega) (by omega) (by omega) (hA.law.1 hI.2.2.1).1 (fun M1 hB2 hF2 => ?_)
        have hF1 := hF.trans (hF2.sub rowL13)
        rw [e]
        refine zb184_50 hT rfl hB2 (by omega) (by omega) (by omega) LWB (fun q2 => ?_) (fun q2 => ?_)
        · rw [hF1 63 t rfl] at q2
          exact ih (t + 1) M1 (by omega) hB2 hF1 (by rw [allB, ha, hgB, decide_eq_true (fun _ => q2), Bool.and_self])
        · rw [hF1 63 t rfl] at q2
          have hk2 := hk M1 hB2 hF1
          rw [allB_no (i := t) (c := hgB m p h) (decide_eq_false (fun x => q2 (x (by omega)))) N (by omega), if_neg (by simp)] at hk2
          exact hk2
  exact zb184_0 hT hBM (by omega) (by omega) (key N 0 M (by omega) hBM hF rfl)
theorem allB_stay {c : Nat → Bool} {t : Nat} (h : allB c t = false) : ∀ j, allB c (t + j) = false
  | 0 => h
  | j + 1 => by
    show (allB c (t + j) && c (t + j)) = false
    rw [allB_stay h j, Bool.false_and]
theorem w_heights (hT : zRules T) {v : Int} (hv : isI v) : Way T 152 277 [(0, zr 1), (1, zi v)] [(0, zr 74), (1, zi v)] 6 170 B B True := by
  rintro D m sc ⟨n, k, hI⟩ κ hκ
  have hI0 := hI
  obtain ⟨i1, i2, i3, i4, i5, i6, i7, i8, i9, i10, i11⟩ := hI
  have hB1 : zB (zu m 74 12 0) := zB_u i1 trivial
  have hA12 : Agree coreK m (zu m 74 12 0) := .of (L := [(74, some 12)]) (zFr.refl.set rfl) rfl
  have b59 : 0 ≤ m 59 4 ∧ m 59 4 ≤ 12 := i1 59 4
  have b17 : 0 ≤ m 17 0 ∧ m 17 0 ≤ 6 := i1 17 0
  obtain ⟨n1, n2⟩ := i4.1
  have no : ¬ (0 ≤ v ∧ v < n) → κ (some (zi (-1))) m := by
    intro hno
    refine hκ _ _ (fun D2 κ2 h2 => ?_)
    have fin : κ2 (some (zi (-1))) (zu m 74 12 0) := h2 _ _ (fun _ => rfl) ⟨n, k, Inv_fr hA12 hB1 hI0⟩
    exact zb277_0 (D := D2 + 167) hT i1 hv (fun _ _ => fin) (fun _ _ _ => fin) (fun q1 q2 => absurd ⟨by omega, by omega⟩ hno)
  refine zb152_0 hT i1 hv (fun _ => no (by omega)) (fun _ _ => no (by omega)) (fun q1 q2 => ?_)
  obtain ⟨p, rfl⟩ : ∃ a : Nat, v = (a : Int) := ⟨v.toNat, by omega⟩
  obtain ⟨N, hN⟩ : ∃ N : Nat, m 59 4 = (N : Int) := ⟨(m 59 4).toNat, by omega⟩
  -- the reference
  have inner : ∀ (h D2 : Nat) (κ2 : Option zA → zM → Prop), 1 ≤ h → h ≤ 99 → (∀ M1, zB M1 → Agree coreK m M1 → T (D2 + 170) 277 (25, [(0, zr 74), (1, zi (p : Int)), (2, zi ((hgS (fun h => allB (hgB m p h) N) (h + 1)).1 : Int)), (3, zi (hgS (fun h => allB (hgB m p h) N) (h + 1)).2.1), (4, zi (hgS (fun h => allB (hgB m p h) N) (h + 1)).2.2), (5, zi ((h : Int) + 1))], [], M1) κ2) →
      ∀ (j t : Nat) (M : zM), t + j = N → zB M → Agree coreK m M → T (D2 + 170) 277 (38, [(0, zr 74), (1, zi (p : Int)), (2, zi ((hgS (fun h => allB (hgB m p h) N) h).1 : Int)), (3, zi (hgS (fun h => allB (hgB m p h) N) h).2.1), (4, zi (hgS (fun h => allB (hgB m p h) N) h).2.2), (5, zi (h : Int)), (6, zi (if allB (hgB m p h) t then 1 else 0)), (7, zi (t : Int))], [], M) κ2 := by
    intro h D2 κ2 h1 h99 hk j
    obtain ⟨g1, g2, g3, g4⟩ := hgSB (c := fun h => allB (hgB m p h) N) h
    have stop : ∀ M1, zB M1 → Agree coreK m M1 → allB (hgB m p h) N = false → T (D2 + 170) 277 (25, [(0, zr 74), (1, zi (p : Int)), (2, zi ((hgS (fun h => allB (hgB m p h) N) h).1 : Int)), (3, zi (hgS (fun h => allB (hgB m p h) N) h).2.1), (4, zi (hgS (fun h => allB (hgB m p h) N) h).2.2), (5, zi ((h : Int) + 1))], [], M1) κ2 := fun M1 hB1 hA1 q => by
      have h2 := hk M1 hB1 hA1
      rw [hgS_no (c := fun h => allB (hgB m p h) N) h1 q] at h2
      exact h2
    induction j with
    | zero =>
      intro t M ht hBM hA
      have et : t = N := by omega
      subst et
      have e52 : M 74 52 = (t : Int) := by rw [hA 74 52 rfl, i8.1, hN]
      by_cases ha : allB (hgB m p h) t = true
      · have h2 := hk M hBM hA
        rw [hgS_yes (c := fun h => allB (hgB m p h) t) h1 ha] at h2
        dsimp only at h2
        rw [if_pos ha]
        refine zb277_38 (D := D2 + 167) hT rfl hBM (by omega) (by omega) (by omega) (by omega) h99 (by omega) (by omega) (fun _ _ q => ?_) (fun _ _ q => ?_) (fun _ q => by omega) (fun q => by omega) (fun q => by omega) (fun q => by omega)
        · rw [if_neg (by omega)] at h2
          exact h2
        · rw [if_pos (by omega)] at h2
          exact h2
      · rw [if_neg ha]
        exact zb277_38 (D := D2 + 167) hT rfl hBM (by omega) (by omega) (by omega) (by omega) h99 (by omega) (by omega) (fun _ q => absurd rfl q) (fun _ q => absurd rfl q) (fun _ _ => stop M hBM hA (by simpa using ha)) (fun q => by omega) (fun q => by omega) (fun q => by omega)
    | succ j ih =>
      intro t M ht hBM hA
      have e52 : M 74 52 = (N : Int) := by rw [hA 74 52 rfl, i8.1, hN]
      obtain ⟨s0, s1, s2, s3, s4⟩ := i8.2 t (by omega)
      have e99 : ∀ d, M 99 (4 * t + d) = m 99 (4 * t + d) := fun d => hA 99 (4 * t + d) rfl
      have e990 : M 99 (4 * t) = m 60 t := (hA 99 (4 * t) rfl).trans s0
      have b60 : 0 ≤ m 60 t ∧ m 60 t ≤ 5 := i1 60 t
      have b61 : 0 ≤ m 61 t ∧ m 61 t ≤ 3 := i1 61 t
      have b62 : 0 ≤ m 62 t ∧ m 62 t ≤ 9999 := i1 62 t
      by_cases ha : allB (hgB m p h) t = true
      · rw [if_pos ha]
        have step : allB (hgB m p h) (t + 1) = hgB m p h t := by rw [allB, ha, Bool.true_and]
        refine zb277_38 (D := D2 + 167) hT rfl hBM (by omega) (by omega) (by omega) (by omega) h99 (by omega) (by omega) (fun q => by omega) (fun q => by omega) (fun q => by omega) (fun _ q => by omega) (fun _ _ q => ?_) (fun _ _ q => ?_)
        · have h2 := ih (t + 1) M (by omega) hBM hA
          rw [step, hgB, decide_eq_true (fun x => absurd x (by omega)), if_pos rfl] at h2
          exact h2
        · have hAL : Agree KL m M := hA.sub (fun q hq => List.mem_append.mpr (Or.inr (List.mem_append.mpr (Or.inl hq))))
          obtain ⟨b, hb⟩ : ∃ b : Nat, m 61 t = (b : Int) := ⟨(m 61 t).toNat, by omega⟩
          have e : LW M (h : Int) (p : Int) b (m 62 t) = LW m (h : Int) (p : Int) (m 61 t).toNat (m 62 t) := by
            rw [hb, Int.toNat_natCast, hAL.law.2]
          rw [e99 1, e99 2, s1, s2, hb]
          refine z_lawBy hT hBM (by omega) (by omega) (by omega) (by omega) (hAL.law.1 i3) (fun M1 hB2 hF2 => ?_)
          have hA1 := hA.trans (.of (hF2.sub lbWL) rfl)
          have h2 := ih (t + 1) M1 (by omega) hB2 hA1
          have e993 : M1 99 (4 * t + 3) = m 63 t := (hA1 99 (4 * t + 3) rfl).trans s3
          rw [e]
          refine zb277_94 (D := D2 + 167) hT rfl hB2 (by omega) (by omega) (by omega) (by omega) h99 (by omega) LWB (fun q2 => ?_) (fun q2 => ?_)
          · rw [step, hgB, decide_eq_false (fun y => q2 (by rw [e993]; exact y (by omega))), if_neg (by simp)] at h2
            exact h2
          · rw [step, hgB, decide_eq_true (fun _ => by rw [← e993]; exact q2), if_pos rfl] at h2
            exact h2
      · rw [if_neg ha]
        have hN2 := allB_stay (c := hgB m p h) (t := t) (by simpa using ha) (j + 1)
        rw [show t + (j + 1) = N by omega] at hN2
        exact zb277_38 (D := D2 + 167) hT rfl hBM (by omega) (by omega) (by omega) (by omega) h99 (by omega) (by omega) (fun q => by omega) (fun q => by omega) (fun q => by omega) (fun _ _ => stop M hBM hA hN2) (fun _ q => absurd rfl q) (fun _ q => absurd rfl q)
  have ref : ∀ (j h : Nat) (M : zM) (D2 : Nat) (κ2 : Option zA → zM → Prop), h + j = 100 → 1 ≤ h → zB M → Agree coreK m M → (∀ M1, zB M1 → Agree coreK m M1 → κ2 (some (zi ((hgS (fun h => allB (hgB m p h) N) 100).1 : Int))) M1) → T (D2 + 170) 277 (25, [(0, zr 74), (1, zi (p : Int)), (2, zi ((hgS (fun h => allB (hgB m p h) N) h).1 : Int)), (3, zi (hgS (fun h => allB (hgB m p h) N) h).2.1), (4, zi (hgS (fun h => allB (hgB m p h) N) h).2.2), (5, zi (h : Int))], [], M) κ2 := by
    intro j
    induction j with
    | zero =>
      intro h M D2 κ2 hh h1 hBM hA hk
      have eh : h = 100 := by omega
      subst eh
      obtain ⟨g1, g2, g3, g4⟩ := hgSB (c := fun h => allB (hgB m p h) N) 100
      refine zb277_25 (D := D2 + 167) hT rfl hBM (by omega) (by omega) (by omega) (by omega) (by omega) (fun _ hz => hk _ hz ?_) (fun q => by omega)
      exact hA.trans (.of (L := [(74, some 11), (81, none)]) (((((zFr.refl.set rfl).set rfl).set rfl).set rfl).set rfl) rfl)
    | succ j ih =>
      intro h M D2 κ2 hh h1 hBM hA hk
      obtain ⟨g1, g2, g3, g4⟩ := hgSB (c := fun h => allB (hgB m p h) N) h
      refine zb277_25 (D := D2 + 167) hT rfl hBM (by omega) (by omega) (by omega) (by omega) (by omega) (fun q => by omega) (fun _ => ?_)
      exact inner h D2 κ2 h1 (by omega) (fun M1 hB1 hA1 => ih (h + 1) M1 D2 κ2 (by omega) (by omega) hB1 hA1 hk) N 0 M (by omega) hBM hA
  -- the class
  have cls : ∀ (j h : Nat) (M : zM), h + j = 100 → 1 ≤ h → zB M → zFr (inL [(13, none)]) m M → T (D + 6) 152 (23, [(0, zr 1), (1, zi (p : Int)), (2, zi ((hgS (fun h => allB (hgB m p h) N) h).1 : Int)), (3, zi (hgS (fun h => allB (hgB m p h) N) h).2.1), (4, zi (hgS (fun h => allB (hgB m p h) N) h).2.2), (5, zi (h : Int))], [], M) κ := by
    intro j
    induction j with
    | zero =>
      intro h M hh h1 hBM hF
      have eh : h = 100 := by omega
      subst eh
      obtain ⟨g1, g2, g3, g4⟩ := hgSB (c := fun h => allB (hgB m p h) N) 100
      refine zb152_23 hT rfl hBM (by omega) (by omega) (by omega) (by omega) (by omega) (fun _ hz => hκ _ _ (fun D2 κ2 h2 => ?_)) (fun q => by omega)
      have hA : Agree coreK m (zu (zu (zu M 72 1 2) 73 0 (hgS (fun h => allB (hgB m p h) N) 100).2.1) 73 1 (hgS (fun h => allB (hgB m p h) N) 100).2.2) := (Agree.of hF rfl).trans (.of (L := [(72, some 1), (73, none)]) (((zFr.refl.set rfl).set rfl).set rfl) rfl)
      have e4 := (hA 74 4 rfl).trans n2
      refine zb277_0 (D := D2 + 167) hT hz hv (fun x => by omega) (fun _ x => by omega) (fun _ _ hz2 => ?_)
      exact ref 99 1 _ D2 κ2 (by omega) (by omega) hz2 (hA.trans (.of (L := [(74, some 12)]) (zFr.refl.set rfl) rfl)) (fun M1 hB3 hA3 => h2 _ _ (fun _ => rfl) ⟨n, k, Inv_fr hA3 hB3 hI0⟩)
    | succ j ih =>
      intro h M hh h1 hBM hF
      obtain ⟨g1, g2, g3, g4⟩ := hgSB (c := fun h => allB (hgB m p h) N) h
      refine zb152_23 hT rfl hBM (by omega) (by omega) (by omega) (by omega) (by omega) (fun q => by omega) (fun _ => ?_)
      refine z_heightC hT hI0 hBM hF hN (by omega) ⟨h1, by omega⟩ (fun M1 hB2 hF1 => ?_)
      have h2 := ih (h + 1) M1 (by omega) (by omega) hB2 hF1
      by_cases ha : allB (hgB m p h) N = true
      · rw [hgS_yes (c := fun h => allB (hgB m p h) N) h1 ha] at h2
        dsimp only at h2
        rw [if_pos ha]
        refine zb152_37 hT rfl hB2 (by omega) (by omega) (by omega) (by omega) (by omega) (by omega) (fun q => by omega) (fun _ q => ?_) (fun _ q => ?_)
        · rw [if_neg (fun x => q (g4.mp x))] at h2
          exact h2
        · rw [if_pos (g4.mpr q)] at h2
          exact h2
      · rw [hgS_no (c := fun h => allB (hgB m p h) N) h1 (by simpa using ha)] at h2
        rw [if_neg ha]
        exact zb152_37 hT rfl hB2 (by omega) (by omega) (by omega) (by omega) (by omega) (by omega) (fun _ => h2) (fun q => absurd rfl q) (fun q => absurd rfl q)
  exact cls 99 1 m (by omega) (by omega) i1 zFr.refl
end ZHeights
end
-- 88.plain.lean.txt
section
/-! plain(). -/
/-- all of a skirt, what went into it and the works on it, so many weeks on -/
noncomputable def plS (f : Nat → Int) (h v : Int) : Nat → Int × Int × Int
  | 0 => (f 0 + v, f 0 + v, 0)
  | t + 1 => if f t = f (t + 1) then plS f h v t else if (plS f h v t).1 < f (t + 1) then (f (t + 1), (plS f h v t).2.1 + (f (t + 1) - (plS f h v t).1), (plS f h v t).2.2 + 3)
    else if f (t + 1) + h < (plS f h v t).1 then (f (t + 1) + h, (plS f h v t).2.1, (plS f h v t).2.2 + 2) else ((plS f h v t).1, (plS f h v t).2.1, (plS f h v t).2.2 + 1)
theorem plSB {f : Nat → Int} {h v : Int} (hf : ∀ t, 0 ≤ f t ∧ f t ≤ 99) (hh : 0 ≤ h ∧ h ≤ 9) (hv : 0 ≤ v ∧ v ≤ 9) : ∀ t, 0 ≤ (plS f h v t).1 ∧ (plS f h v t).1 ≤ 108
  | 0 => by
    have := hf 0
    rw [plS]
    dsimp only
    omega
  | t + 1 => by
    have h1 := plSB hf hh hv t
    have := hf (t + 1)
    rw [plS]
    by_cases q1 : f t = f (t + 1)
    · rw [if_pos q1]
      exact h1
    · rw [if_neg q1]
      by_cases q2 : (plS f h v t).1 < f (t + 1)
      · rw [if_pos q2]
        dsimp only
        omega
      · rw [if_neg q2]
        by_cases q3 : f (t + 1) + h < (plS f h v t).1
        · rw [if_pos q3]
          dsimp only
          omega
        · rw [if_neg q3]
          exact h1
theorem mkA_pl {f : Nat → Int} {h v : Int} {t : Nat} {a : zS} (e1 : a.1 12 = f t) (e2 : a.1 12 + a.1 20 = (plS f h v t).1) (e3 : a.2.1 = (plS f h v t).2.1) (e4 : a.2.2.1 = (plS f h v t).2.2) (h56 : 0 ≤ a.1 56 ∧ a.1 56 ≤ 20) :
    (mkA h a 0 (f (t + 1))).1 12 = f (t + 1) ∧ (mkA h a 0 (f (t + 1))).1 12 + (mkA h a 0 (f (t + 1))).1 20 = (plS f h v (t + 1)).1 ∧ (mkA h a 0 (f (t + 1))).2.1 = (plS f h v (t + 1)).2.1 ∧ (mkA h a 0 (f (t + 1))).2.2.1 = (plS f h v (t + 1)).2.2 := by
  rw [plS]
  unfold mkA
  simp only [Nat.zero_add]
  by_cases q1 : f t = f (t + 1)
  · rw [if_pos q1, if_pos (show a.1 12 = f (t + 1) by omega)]
    exact ⟨by omega, e2, e3, e4⟩
  · rw [if_neg q1, if_neg (show ¬ a.1 12 = f (t + 1) by omega)]
    by_cases q2 : (plS f h v t).1 < f (t + 1)
    · rw [if_pos q2, if_pos (show a.1 12 + a.1 20 < f (t + 1) by omega)]
      dsimp only
      refine ⟨rfl, ?_, by rw [e2, e3], by rw [e4]⟩
      show f (t + 1) + 0 = f (t + 1)
      omega
    · rw [if_neg q2, if_neg (show ¬ a.1 12 + a.1 20 < f (t + 1) by omega)]
      by_cases q3 : f (t + 1) + h < (plS f h v t).1
      · rw [if_pos q3, if_pos (show f (t + 1) + h < a.1 12 + a.1 20 by omega)]
        dsimp only
        by_cases q4 : a.1 56 = 20
        · rw [if_pos q4]
          exact ⟨rfl, rfl, e3, by rw [e4]⟩
        · rw [if_neg q4]
          have x1 : (36 + a.1 56).toNat ≠ 12 := by omega
          have x2 : (36 + a.1 56).toNat ≠ 20 := by omega
          refine ⟨?_, ?_, e3, by rw [e4]⟩
          · unfold fu
            simp only [x1.symm, if_false, if_true, Nat.reduceEqDiff]
          · unfold fu
            simp only [x1.symm, x2.symm, if_false, if_true, Nat.reduceEqDiff]
      · rw [if_neg q3, if_neg (show ¬ f (t + 1) + h < a.1 12 + a.1 20 by omega)]
        dsimp only
        refine ⟨rfl, ?_, e3, by rw [e4]⟩
        show f (t + 1) + (a.1 12 + a.1 20 - f (t + 1)) = _
        omega
theorem mkL91 : ∀ c j, mkW 91 c j = true → inL [(91, none), (74, some 31), (74, some 32), (74, some 33)] c j = true := fun c j q => by
  simp only [mkW, Bool.or_eq_true, Bool.and_eq_true] at q
  rcases q with q | ⟨q, q2⟩
  · have e := Nat.eq_of_beq_eq_true q
    subst e
    rfl
  · have e := Nat.eq_of_beq_eq_true q
    subst e
    rcases q2 with q2 | q2 | q2
    · have e2 := Nat.eq_of_beq_eq_true q2
      subst e2
      rfl
    · have e2 := Nat.eq_of_beq_eq_true q2
      subst e2
      rfl
    · have e2 := Nat.eq_of_beq_eq_true q2
      subst e2
      rfl
section ZPlain
variable {T : Nat → Nat → zG → (Option zA → zM → Prop) → Prop} {B : Int}
theorem z_billPlain (hT : zRules T) {D : Nat} {κ : Option zA → zM → Prop} {m : zM} {f : Nat → Int} {v : Int} {N : Nat} (hB : zB m) (hv : 0 ≤ v ∧ v ≤ 9) (hf : ∀ t, 0 ≤ f t ∧ f t ≤ 99) (hN : m 52 1 = (N + 1 : Int)) (hN2 : N + 1 ≤ 60) (h53 : ∀ t, t < N + 1 → m 53 t = f t) (h13 : m 17 13 = 0)
    (hk : ∀ m1, zB m1 → zFr (inL [(17, some 12), (17, some 13)]) m m1 → m1 17 12 = (plS f (m 24 0) v N).2.1 → m1 17 13 = (plS f (m 24 0) v N).2.2 → κ none m1) : T (D + 3) 87 (0, [(0, zr 52), (1, zr 17), (2, zi v)], [], m) κ := by
  have b24 : 0 ≤ m 24 0 ∧ m 24 0 ≤ 9 := hB 24 0
  have key : ∀ (j t : Nat) (M : zM), t + j = N → zB M → zFr (inL [(17, some 12), (17, some 13)]) m M → M 17 12 = (plS f (m 24 0) v t).2.1 → M 17 13 = (plS f (m 24 0) v t).2.2 → T (D + 3) 87 (17, [(0, zr 52), (1, zr 17), (3, zi (plS f (m 24 0) v t).1), (4, zi ((t + 1 : Nat) : Int))], [], M) κ := by
    intro j
    induction j with
    | zero =>
      intro t M ht hBM hF d1 d2
      have et : t = N := by omega
      subst et
      have e52 : M 52 1 = (t + 1 : Int) := (hF 52 1 rfl).trans hN
      exact zb87_17 hT rfl hBM (plSB hf b24 hv t) (by omega) (fun _ => hk M hBM hF d1 d2) (fun q => by omega) (fun q => by omega) (fun q => by omega) (fun q => by omega) (fun q => by omega)
    | succ j ih =>
      intro t M ht hBM hF d1 d2
      have e52 : M 52 1 = (N + 1 : Int) := (hF 52 1 rfl).trans hN
      have e : (((t + 1 : Nat) : Int) - 1).toNat = t := by omega
      have e53a : M 53 t = f t := (hF 53 t rfl).trans (h53 t (by omega))
      have e53b : M 53 (t + 1) = f (t + 1) := (hF 53 (t + 1) rfl).trans (h53 (t + 1) (by omega))
      have e24 : M 24 0 = m 24 0 := hF 24 0 rfl
      have es : plS f (m 24 0) v (t + 1) = if f t = f (t + 1) then plS f (m 24 0) v t else if (plS f (m 24 0) v t).1 < f (t + 1) then (f (t + 1), (plS f (m 24 0) v t).2.1 + (f (t + 1) - (plS f (m 24 0) v t).1), (plS f (m 24 0) v t).2.2 + 3)
        else if f (t + 1) + m 24 0 < (plS f (m 24 0) v t).1 then (f (t + 1) + m 24 0, (plS f (m 24 0) v t).2.1, (plS f (m 24 0) v t).2.2 + 2) else ((plS f (m 24 0) v t).1, (plS f (m 24 0) v t).2.1, (plS f (m 24 0) v t).2.2 + 1) := rfl
      refine zb87_17 hT rfl hBM (plSB hf b24 hv t) (by omega) (fun q => by omega) (fun _ => by omega) (fun _ q1 q2 q3 hz => ?_) (fun _ q1 q2 q3 hz => ?_) (fun _ q1 q2 hz => ?_) (fun _ q1 hz => ?_)
      · rw [e, e53a, e53b] at q1
        rw [e53b] at q2 q3 ⊢
        rw [e24] at q3 ⊢
        rw [if_neg q1, if_neg q2, if_pos q3] at es
        have h1 := ih (t + 1) _ (by omega) hz (hF.set rfl) (by rw [zu_off (by omega), d1, es]) (by rw [zu_sm rfl, d2, es])
        rw [es] at h1
        exact h1
      · rw [e, e53a, e53b] at q1
        rw [e53b] at q2 q3
        rw [e24] at q3
        rw [if_neg q1, if_neg q2, if_neg q3] at es
        have h1 := ih (t + 1) _ (by omega) hz (hF.set rfl) (by rw [zu_off (by omega), d1, es]) (by rw [zu_sm rfl, d2, es])
        rw [es] at h1
        exact h1
      · rw [e, e53a, e53b] at q1
        rw [e53b] at q2 hz ⊢
        rw [if_neg q1, if_pos q2] at es
        have h1 := ih (t + 1) _ (by omega) hz ((hF.set rfl).set rfl) (by rw [zu_sm rfl, d1, es]) (by rw [zu_off (by omega), zu_sm rfl, d2, es])
        rw [es] at h1
        exact h1
      · rw [e, e53a, e53b] at q1
        rw [if_pos q1] at es
        have h1 := ih (t + 1) _ (by omega) hz (hF.set rfl) (by rw [zu_off (by omega), d1, es]) (by rw [zu_sm rfl, d2, es, Int.add_zero])
        rw [es] at h1
        exact h1
  refine zb87_0 hT hB hv (fun hz => ?_)
  have e0 : m 53 0 = f 0 := h53 0 (by omega)
  rw [e0] at hz ⊢
  exact key N 0 _ (by omega) hz (zFr.refl.set rfl) (by rw [zu_sm rfl]; rfl) (by rw [zu_off (by omega), h13]; rfl)
theorem z_plainR (hT : zRules T) {D : Nat} {κ : Option zA → zM → Prop} {m M0 : zM} {sc : zSc} {n k p pl N : Nat} {v : Int} (hI : Inv B sc n k m) (hA : Agree coreK m M0) (hp : p < n) (hpl : m 75 p = (pl : Int)) (hN : N + 1 ≤ 20) (hv : 0 ≤ v ∧ v ≤ 9) (hB0 : zB M0)
    (h56 : 0 ≤ M0 91 56 ∧ M0 91 56 ≤ 20)
    (hk : ∀ M1, zB M1 → Agree coreK m M1 → κ (some (zi (wr ((plS (laF m p pl) (m 24 0) v N).2.1 * m 24 1 + (plS (laF m p pl) (m 24 0) v N).2.2 * m 24 2)))) M1) : T (D + 172) 259 (51, [(0, zr 74), (1, zi (p : Int)), (2, zi ((N + 1 : Nat) : Int)), (3, zi v)], [], M0) κ := by
  have i1 := hI.1
  have b17 : 0 ≤ m 17 0 ∧ m 17 0 ≤ 6 := i1 17 0
  have b24 : 0 ≤ m 24 0 ∧ m 24 0 ≤ 9 := i1 24 0
  have n1 := hI.2.2.2.1.1.1
  have bpl := (hI.2.2.2.1.2.2.2.2.1 p hp).1
  have e79 : ∀ M, Agree coreK m M → ∀ j, j < 3 → M 79 j = m 24 j := fun M hAM j hj => (hAM 79 j rfl).trans (hI.2.2.2.2.1 j hj)
  have core : ∀ (M : zM), Agree coreK m M → Agree KL m M ∧ M 78 = m 78 ∧ M 75 57 = m 75 57 ∧ M 75 p = (pl : Int) := fun M hAM =>
    ⟨hAM.sub (fun q hq => List.mem_append.mpr (Or.inr (List.mem_append.mpr (Or.inl hq)))), funext fun j => hAM 78 j rfl, hAM 75 57 rfl, (hAM 75 p rfl).trans hpl⟩
  have key : ∀ (j t : Nat) (M : zM) (a : zS), t + j = N → zB M → Agree coreK m M → RelR 91 M a → a.1 12 = laF m p pl t → a.1 12 + a.1 20 = (plS (laF m p pl) (m 24 0) v t).1 → a.2.1 = (plS (laF m p pl) (m 24 0) v t).2.1 → a.2.2.1 = (plS (laF m p pl) (m 24 0) v t).2.2 → (0 ≤ a.1 56 ∧ a.1 56 ≤ 20) →
      T (D + 172) 259 (92, [(0, zr 74), (1, zi (p : Int)), (2, zi ((N + 1 : Nat) : Int)), (4, zi ((t + 1 : Nat) : Int))], [], M) κ := by
    intro j
    induction j with
    | zero =>
      intro t M a ht hBM hAM hR d1 d2 d3 d4 d5
      have et : t = N := by omega
      subst et
      refine zb259_92 (D := D + 168) hT rfl hBM (by omega) (by omega) (by omega) (fun _ hz => ?_) (fun q => by omega)
      rw [e79 M hAM 1 (by omega), e79 M hAM 2 (by omega)]
      have x1 : M 74 31 = (plS (laF m p pl) (m 24 0) v t).2.1 := hR.2.1.trans d3
      have x2 : M 74 32 = (plS (laF m p pl) (m 24 0) v t).2.2 := hR.2.2.1.trans d4
      rw [x1, x2] at hz ⊢
      rw [Int.mul_comm (m 24 1), Int.mul_comm (m 24 2)]
      exact hk _ hz (hAM.trans (.of (L := [(74, some 11), (81, none)]) (((((zFr.refl.set rfl).set rfl).set rfl).set rfl).set rfl) rfl))
    | succ j ih =>
      intro t M a ht hBM hAM hR d1 d2 d3 d4 d5
      obtain ⟨c1, c2, c3, c4⟩ := core M hAM
      refine zb259_92 (D := D + 168) hT rfl hBM (by omega) (by omega) (by omega) (fun q => by omega) (fun _ => ?_)
      refine z_lawInF (d := t + 1) (pl := pl) hT hI hBM c1 c2 c3 hp c4 (by omega) (fun M1 hB1 hF1 => ?_)
      refine zb259_111 (D := D + 168) hT rfl hB1 (by omega) (by omega) (by omega) laFB ?_
      have hAM1 : Agree coreK m M1 := hAM.trans (.of hF1 rfl)
      have hR1 : RelR 91 M1 a := ⟨(funext fun j => hF1 91 j rfl).trans hR.1, (hF1 74 31 rfl).trans hR.2.1, (hF1 74 32 rfl).trans hR.2.2.1, (hF1 74 33 rfl).trans hR.2.2.2⟩
      refine z_makes_91 (c := 0) (D := D + 169) hT hB1 (by omega) laFB hR1 (fun M2 hB2 hF2 hR2 => ?_)
      rw [e79 M1 hAM1 0 (by omega)] at hR2
      obtain ⟨g1, g2, g3, g4⟩ := mkA_pl (f := laF m p pl) (h := m 24 0) (v := v) (t := t) d1 d2 d3 d4 d5
      have g5 := mkA_56 (h := m 24 0) (a := a) (c := 0) (v := laF m p pl (t + 1)) (by omega) d5
      refine zb259_114 (D := D + 168) hT rfl hB2 (by omega) (by omega) (by omega) ?_
      exact ih (t + 1) M2 _ (by omega) hB2 (hAM1.trans (.of (hF2.sub mkL91) rfl)) hR2 g1 g2 g3 g4 g5
  refine zb259_51 (D := D + 168) hT rfl hB0 (by omega) (by omega) hv (fun hz => ?_)
  have hA1 : Agree coreK m (zu (zu (zu M0 74 31 0) 74 32 0) 74 33 0) := hA.trans (.of (L := [(74, some 31), (74, some 32), (74, some 33)]) (((zFr.refl.set rfl).set rfl).set rfl) rfl)
  have z32 : (zu (zu (zu M0 74 31 0) 74 32 0) 74 33 0) 74 32 = 0 := by rw [zu_off (by omega), zu_sm rfl]
  have z91 : ∀ j, (zu (zu (zu M0 74 31 0) 74 32 0) 74 33 0) 91 j = M0 91 j := fun j => by rw [zu_dn (by omega), zu_dn (by omega), zu_dn (by omega)]
  generalize (zu (zu (zu M0 74 31 0) 74 32 0) 74 33 0) = M at hz hA1 z32 z91 ⊢
  obtain ⟨c1, c2, c3, c4⟩ := core M hA1
  refine z_lawInF (d := 0) (pl := pl) hT hI hz c1 c2 c3 hp c4 (by omega) (fun M1 hB1 hF1 => ?_)
  refine zb259_67 (D := D + 168) hT rfl hB1 (by omega) (by omega) hv laFB (fun hz2 => ?_)
  refine key N 0 _ ((zu (zu (zu M1 91 12 (laF m p pl 0)) 91 20 v) 74 31 (laF m p pl 0 + v)) 91, laF m p pl 0 + v, 0, M1 74 33) (by omega) hz2 ((hA1.trans (.of hF1 rfl)).trans (.of (L := [(91, none), (74, some 31)]) (((zFr.refl.set rfl).set rfl).set rfl) rfl)) ⟨rfl, by rw [zu_sm rfl], ?_, ?_⟩ ?_ ?_ rfl rfl ?_
  · rw [zu_off (by omega), zu_dn (by omega), zu_dn (by omega), hF1 74 32 rfl, z32]
  · rw [zu_off (by omega), zu_dn (by omega), zu_dn (by omega)]
  · dsimp only
    rw [zu_dn (by omega), zu_off (by omega), zu_sm rfl]
  · dsimp only
    rw [zu_dn (by omega), zu_off (by omega), zu_sm rfl, zu_dn (by omega), zu_sm rfl]
    rfl
  · dsimp only
    rw [zu_dn (by omega), zu_off (by omega), zu_off (by omega), hF1 91 56 rfl, z91]
    exact h56
theorem w_plain (hT : zRules T) {p nn v : Int} (hp : isI p) (hn : isI nn) (hv : isI v) : Way T 141 259 [(0, zr 1), (1, zi p), (2, zi nn), (3, zi v)] [(0, zr 74), (1, zi p), (2, zi nn), (3, zi v)] 6 172 B B True := by
  rintro D m sc ⟨n, k, hI⟩ κ hκ
  have hI0 := hI
  obtain ⟨i1, i2, i3, i4, i5, i6, i7, i8, i9, i10, i11⟩ := hI
  have hB1 : zB (zu m 74 12 0) := zB_u i1 trivial
  have hA12 : Agree coreK m (zu m 74 12 0) := .of (L := [(74, some 12)]) (zFr.refl.set rfl) rfl
  obtain ⟨⟨n1, n2⟩, ⟨k1, k2⟩, hh, hRel, hok⟩ := i4
  have b17 : 0 ≤ m 17 0 ∧ m 17 0 ≤ 6 := i1 17 0
  have b24 : 0 ≤ m 24 0 ∧ m 24 0 ≤ 9 := i1 24 0
  have e79 : m 79 0 = m 24 0 := i5 0 (by omega)
  have no : ¬ (0 ≤ p ∧ p < n ∧ 1 ≤ nn ∧ nn ≤ 20 ∧ 0 ≤ v ∧ v ≤ m 24 0) → κ (some (zi (-1))) m := by
    intro hno
    refine hκ _ _ (fun D2 κ2 h2 => ?_)
    have fin : κ2 (some (zi (-1))) (zu m 74 12 0) := h2 _ _ (fun _ => rfl) ⟨n, k, Inv_fr hA12 hB1 hI0⟩
    refine zb259_0 (D := D2 + 168) hT i1 hp hn hv ?_ ?_ ?_ ?_ ?_ ?_ ?_
    · exact fun _ _ => fin
    · exact fun _ _ _ => fin
    · exact fun _ _ _ _ => fin
    · exact fun _ _ _ _ _ => fin
    · exact fun _ _ _ _ _ _ => fin
    · exact fun _ _ _ _ _ _ _ => fin
    · exact fun q1 q2 q3 q4 q5 q6 => absurd ⟨by omega, by omega, by omega, by omega, by omega, by omega⟩ hno
  refine zb141_0 hT i1 hp hn hv (fun _ => no (by omega)) (fun _ _ => no (by omega)) (fun _ _ _ => no (by omega)) (fun _ _ _ _ => no (by omega)) (fun _ _ _ _ _ => no (by omega)) (fun q1 q2 q3 q4 q5 q6 => ?_) (fun _ _ _ _ _ _ => no (by omega))
  obtain ⟨a, rfl⟩ : ∃ a : Nat, p = (a : Int) := ⟨p.toNat, by omega⟩
  obtain ⟨N, rfl⟩ : ∃ a : Nat, nn = ((a + 1 : Nat) : Int) := ⟨(nn - 1).toNat, by omega⟩
  obtain ⟨h78, h18⟩ := hh a (by omega)
  obtain ⟨r1, r2⟩ := hRel.1 a (by omega)
  have bpl := (hok.1 a (by omega)).1
  obtain ⟨pl, hpl⟩ : ∃ pl : Nat, m 75 a = (pl : Int) := ⟨(m 75 a).toNat, by omega⟩
  rw [Int.toNat_natCast, r1, hpl]
  refine z_lookAhead hT i1 (by omega) (by omega) (by omega) (by omega) i3 (fun m1 hB2 hF1 g1 g2 => ?_)
  refine zb141_54 hT rfl hB2 (by omega) (fun hz => ?_)
  have t1 : zFr (inL [(13, none), (17, some 12), (17, some 13), (17, some 14), (52, some 1), (53, none)]) m (zu (zu (zu m1 17 12 0) 17 13 0) 17 14 0) := (((hF1.sub (inL_sub (by decide))).set rfl).set rfl).set rfl
  have x52 : (zu (zu (zu m1 17 12 0) 17 13 0) 17 14 0) 52 1 = (N + 1 : Int) := by rw [zu_dn (by omega), zu_dn (by omega), zu_dn (by omega), g1]; omega
  have x53 : ∀ t, t < N + 1 → (zu (zu (zu m1 17 12 0) 17 13 0) 17 14 0) 53 t = laF m a pl t := fun t ht => by rw [zu_dn (by omega), zu_dn (by omega), zu_dn (by omega), g2 t ht]
  have x13 : (zu (zu (zu m1 17 12 0) 17 13 0) 17 14 0) 17 13 = 0 := by rw [zu_off (by omega), zu_sm rfl]
  generalize (zu (zu (zu m1 17 12 0) 17 13 0) 17 14 0) = M at hz t1 x52 x53 x13 ⊢
  refine z_billPlain (D := D + 2) (f := laF m a pl) (N := N) hT hz (by omega) (fun t => laFB) x52 (by omega) x53 x13 (fun m2 hB3 hF2 y1 y2 => ?_)
  refine zb141_73 hT rfl hB3 (fun hz3 => ?_)
  have hF2b : zFr (inL [(13, none), (17, some 12), (17, some 13), (17, some 14), (52, some 1), (53, none)]) m m2 := t1.trans (hF2.sub (inL_sub (by decide)))
  rw [t1 24 0 rfl] at y1 y2
  rw [y1, y2] at hz3 ⊢
  rw [hF2b 24 1 rfl, hF2b 24 2 rfl]
  refine hκ _ _ (fun D2 κ2 h2 => ?_)
  have hAM : Agree coreK m (zu (zu (zu m2 72 1 2) 73 0 (plS (laF m a pl) (m 24 0) v N).2.1) 73 1 (plS (laF m a pl) (m 24 0) v N).2.2) := (Agree.of hF2b rfl).trans (.of (L := [(72, some 1), (73, none)]) (((zFr.refl.set rfl).set rfl).set rfl) rfl)
  generalize (zu (zu (zu m2 72 1 2) 73 0 (plS (laF m a pl) (m 24 0) v N).2.1) 73 1 (plS (laF m a pl) (m 24 0) v N).2.2) = M2 at hz3 hAM ⊢
  have e4 : M2 74 4 = (n : Int) := (hAM 74 4 rfl).trans n2
  have e790 : M2 79 0 = m 24 0 := (hAM 79 0 rfl).trans e79
  refine zb259_0 (D := D2 + 168) hT hz3 hp hn hv (fun x => by omega) (fun _ x => by omega) (fun _ _ x => by omega) (fun _ _ _ x => by omega) (fun _ _ _ _ x => by omega) (fun _ _ _ _ _ x => by omega) (fun _ _ _ _ _ _ hz4 => ?_)
  refine z_lay_75_91 (k := 0) (D := D2 + 170) hT (by omega) ?_
  have hA4 : Agree coreK m (z_cp (zu M2 74 12 0) 75 91 0 0 59) := hAM.trans (.of (L := [(74, some 12), (91, none)]) ((zFr.refl.set rfl).cp (fun _ => rfl)) rfl)
  have x56 : (z_cp (zu M2 74 12 0) 75 91 0 0 59) 91 56 = m 75 56 := by
    rw [z_cp_in (by omega), zu_dn (by omega)]
    exact hAM 75 56 rfl
  exact z_plainR hT hI0 hA4 (by omega) hpl (by omega) (by omega) (zB_cpB hz4 rfl) (by rw [x56]; exact hok.2.1) (fun M1 hB4 hA5 => h2 _ _ (fun _ => rfl) ⟨n, k, Inv_fr hA5 hB4 hI0⟩)
end ZPlain
end
-- 89.sell.lean.txt
section
/-! sell(). -/
theorem tb_pow (i t : Nat) : (2 ^ i).testBit t = decide (i = t) := Nat.testBit_two_pow
section ZSell
variable {T : Nat → Nat → zG → (Option zA → zM → Prop) → Prop} {B : Int}
/-- a piece is taken out of the class's box -/
theorem z_takeOut1 (hT : zRules T) {D : Nat} {κ : Option zA → zM → Prop} {m : zM} {i N : Nat} (hB : zB m) (hN : m 25 2 = (N : Int)) (hi : i < N)
    (hk : ∀ m1, zB m1 → zFr (inL [(25, some 2), (26, none)]) m m1 → m1 25 2 = (N : Int) - 1 → (∀ j, j + 1 < N → m1 26 j = if j < i then m 26 j else m 26 (j + 1)) → κ none m1) : T (D + 1) 10 (0, [(0, zr 25), (1, zi (z_shl 1 (i : Int)))], [], m) κ := by
  have b25 : 0 ≤ m 25 2 ∧ m 25 2 ≤ 20 := hB 25 2
  have p20 : 2 ^ i ≤ 2 ^ 20 := Nat.pow_le_pow_right (by omega) (by omega)
  rw [z_shl1T i (by omega)]
  generalize hbp : 2 ^ i = b at p20 ⊢
  have key : ∀ (j t l : Nat) (M : zM), t + j = N → l = (if t ≤ i then t else t - 1) → zB M → zFr (inL [(26, none)]) m M → (∀ x, x < 20 → M 26 x = if i ≤ x ∧ x < l then m 26 (x + 1) else m 26 x) → T (D + 1) 10 (4, [(0, zr 25), (1, zi (b : Int)), (2, zi (l : Int)), (3, zi (t : Int))], [], M) κ := by
    intro j
    induction j with
    | zero =>
      intro t l M ht hl hBM hF hx
      have et : t = N := by omega
      subst et
      rw [if_neg (by omega)] at hl
      have e25 : M 25 2 = (t : Int) := (hF 25 2 rfl).trans hN
      refine zb10_4 hT rfl hBM (by omega) (by omega) (by omega) (fun _ hz => ?_) (fun q => by omega) (fun q => by omega) (fun q => by omega)
      refine hk _ hz ((hF.sub (inL_sub (by decide))).set rfl) (by rw [zu_sm rfl]; omega) (fun x hx2 => ?_)
      rw [zu_dn (by omega), hx x (by omega)]
      by_cases e : x < i
      · rw [if_pos e, if_neg (by omega)]
      · rw [if_neg e, if_pos (by omega)]
    | succ j ih =>
      intro t l M ht hl hBM hF hx
      have e25 : M 25 2 = (N : Int) := (hF 25 2 rfl).trans hN
      have hl2 : l ≤ t := by
        rw [hl]
        split <;> omega
      have hb : z_and (z_shr (b : Int) (t : Int)) 1 = if i = t then 1 else 0 := by
        rw [z_bit (by omega) (by omega), ← hbp, tb_pow]
        by_cases e : i = t
        · rw [decide_eq_true e, if_pos rfl, if_pos e]
        · rw [decide_eq_false e, if_neg (by simp), if_neg e]
      refine zb10_4 hT rfl hBM (by omega) (by omega) (by omega) (fun q => by omega) (fun _ q => ?_) (fun _ _ => by omega) (fun _ q hz => ?_)
      · rw [hb] at q
        have e : i = t := by
          by_cases e : i = t
          · exact e
          · rw [if_neg e] at q
            exact absurd rfl q
        rw [if_pos (by omega)] at hl
        exact ih (t + 1) l M (by omega) (by rw [if_neg (by omega)]; omega) hBM hF hx
      · rw [hb] at q
        have e : ¬ i = t := by
          intro e
          rw [if_pos e] at q
          exact absurd q (by decide)
        refine ih (t + 1) (l + 1) _ (by omega) ?_ hz (hF.set rfl) (fun x hx2 => ?_)
        · by_cases e2 : t ≤ i
          · rw [if_pos e2] at hl
            rw [if_pos (by omega)]
            omega
          · rw [if_neg e2] at hl
            rw [if_neg (by omega)]
            omega
        · rw [zu_at, hx t (by omega), hx x hx2]
          by_cases e2 : t ≤ i
          · rw [if_pos e2] at hl
            rw [if_neg (show ¬ (i ≤ t ∧ t < l) by omega), if_neg (show ¬ (i ≤ x ∧ x < l) by omega), if_neg (show ¬ (i ≤ x ∧ x < l + 1) by omega)]
            by_cases e3 : x = l
            · rw [if_pos e3, e3, hl]
            · rw [if_neg e3]
          · rw [if_neg e2] at hl
            rw [if_neg (show ¬ (i ≤ t ∧ t < l) by omega)]
            by_cases e3 : x = l
            · rw [if_pos e3, if_pos (by omega), e3, hl, show t - 1 + 1 = t by omega]
            · rw [if_neg e3]
              by_cases e4 : i ≤ x ∧ x < l
              · rw [if_pos e4, if_pos (by omega)]
              · rw [if_neg e4, if_neg (by omega)]
  refine zb10_0 (D := D) hT hB (by omega) ?_
  exact key N 0 0 m (by omega) (by rw [if_pos (by omega)]) hB zFr.refl (fun x _ => by rw [if_neg (by omega)])
/-- and out of the reference's -/
theorem z_takes1 (hT : zRules T) {D : Nat} {κ : Option zA → zM → Prop} {m : zM} {i N : Nat} (hB : zB m) (hN : m 75 56 = (N : Int)) (hi : i < N)
    (hk : ∀ m1, zB m1 → zFr (inL [(75, none)]) m m1 → m1 75 56 = (N : Int) - 1 → (∀ x, (x < 36 ∨ 56 < x) → m1 75 x = m 75 x) → (∀ j, j + 1 < N → m1 75 (j + 36) = if j < i then m 75 (j + 36) else m 75 (j + 37)) → κ none m1) : T (D + 1) 243 (0, [(0, zr 74), (1, zi (i : Int))], [], m) κ := by
  have b56 : 0 ≤ m 75 56 ∧ m 75 56 ≤ 20 := hB 75 56
  have key : ∀ (j t : Nat) (M : zM), t + j + 1 = N → i ≤ t → zB M → zFr (inL [(75, none)]) m M → (∀ x, M 75 x = if i + 36 ≤ x ∧ x < t + 36 then m 75 (x + 1) else m 75 x) → T (D + 1) 243 (2, [(0, zr 74), (2, zi (t : Int))], [], M) κ := by
    intro j
    induction j with
    | zero =>
      intro t M ht hit hBM hF hx
      have e56 : M 75 56 = (N : Int) := by rw [hx 56, if_neg (by omega), hN]
      refine zb243_2 hT rfl hBM (by omega) (fun _ => ?_) (fun q => by omega)
      refine hk _ (zB_u hBM ?_) (hF.set rfl) (by rw [zu_sm rfl, e56]) (fun x hx2 => ?_) (fun x hx2 => ?_)
      · show 0 ≤ M 75 56 - 1 ∧ M 75 56 - 1 ≤ 20
        omega
      · rw [zu_off (by omega), hx x, if_neg (by omega)]
      · rw [zu_off (by omega), hx (x + 36)]
        by_cases e : x < i
        · rw [if_pos e, if_neg (by omega)]
        · rw [if_neg e, if_pos (by omega)]
    | succ j ih =>
      intro t M ht hit hBM hF hx
      have e56 : M 75 56 = (N : Int) := by rw [hx 56, if_neg (by omega), hN]
      refine zb243_2 hT rfl hBM (by omega) (fun q => by omega) (fun _ hz => ?_)
      refine ih (t + 1) _ (by omega) (by omega) hz (hF.set rfl) (fun x => ?_)
      rw [zu_at, hx x, hx (t + 37), if_neg (show ¬ (i + 36 ≤ t + 37 ∧ t + 37 < t + 36) by omega)]
      by_cases e : x = t + 36
      · rw [if_pos e, if_pos (by omega), e]
      · rw [if_neg e]
        by_cases e4 : i + 36 ≤ x ∧ x < t + 36
        · rw [if_pos e4, if_pos (by omega)]
        · rw [if_neg e4, if_neg (by omega)]
  exact zb243_0 hT hB (by omega) (key (N - 1 - i) i m (by omega) (Nat.le_refl i) hB zFr.refl (fun x => by rw [if_neg (by omega)]))
theorem w_sell (hT : zRules T) {p v : Int} (hp : isI p) (hv : isI v) : Way T 131 244 [(0, zr 1), (1, zi p), (2, zi v)] [(0, zr 74), (1, zi p), (2, zi v)] 4 3 B B True := by
  rintro D m sc ⟨n, k, hI⟩ κ hκ
  have hI0 := hI
  obtain ⟨i1, i2, i3, i4, i5, i6, i7, i8, i9, i10, i11⟩ := hI
  have hB1 : zB (zu m 74 12 0) := zB_u i1 trivial
  have hA12 : Agree coreK m (zu m 74 12 0) := .of (L := [(74, some 12)]) (zFr.refl.set rfl) rfl
  obtain ⟨⟨n1, n2⟩, ⟨k1, k2⟩, hh, hRel, hok⟩ := i4
  have b17 : 0 ≤ m 17 0 ∧ m 17 0 ≤ 6 := i1 17 0
  have b171 : 0 ≤ m 17 1 ∧ m 17 1 ≤ 8 := i1 17 1
  have b25 : 0 ≤ m 25 2 ∧ m 25 2 ≤ 20 := i1 25 2
  have e25 : m 25 2 = m 75 56 := hRel.2.2.1
  have no : ¬ (0 ≤ p ∧ p < m 25 2 ∧ 0 ≤ v ∧ v ≤ 9) → κ (some (zi (-1))) m := by
    intro hno
    refine hκ _ _ (fun D2 κ2 h2 => ?_)
    have fin : κ2 (some (zi (-1))) (zu m 74 12 0) := h2 _ _ (fun _ => rfl) ⟨n, k, Inv_fr hA12 hB1 hI0⟩
    refine zb244_0 hT i1 hp hv ?_ ?_ ?_ ?_ ?_
    · exact fun _ _ => fin
    · exact fun _ _ _ => fin
    · exact fun _ _ _ _ => fin
    · exact fun _ _ _ _ _ => fin
    · exact fun q1 q2 q3 q4 => absurd ⟨by omega, by omega, by omega, by omega⟩ hno
  refine zb131_0 hT i1 hp hv (fun _ => no (by omega)) (fun _ _ => no (by omega)) (fun _ _ _ => no (by omega)) (fun q1 q2 q3 q4 => ?_) (fun _ _ _ _ => no (by omega))
  obtain ⟨i, rfl⟩ : ∃ a : Nat, p = (a : Int) := ⟨p.toNat, by omega⟩
  obtain ⟨N, hN⟩ : ∃ N : Nat, m 25 2 = (N : Int) := ⟨(m 25 2).toNat, by omega⟩
  have b26 : 0 ≤ m 26 i ∧ m 26 i ≤ 108 := i1 26 i
  have e26 : m 26 i = m 75 (i + 36) := hRel.2.2.2.1 i (by omega)
  refine z_remC hT i1 (fun m1 hB2 hF1 hC => ?_)
  refine zb131_27 hT rfl hB2 (by omega) (by omega) ?_
  rw [hF1 26 i rfl]
  refine z_takeOut1 (D := D + 2) (N := N) hT hB2 (by rw [hF1 25 2 rfl, hN]) (by omega) (fun m2 hB3 hF2 g1 g2 => ?_)
  have hval : 0 ≤ m 26 i * v ∧ m 26 i * v ≤ 972 := by
    have h1 := Int.mul_nonneg b26.1 (show 0 ≤ v by omega)
    have h2 : m 26 i * v ≤ 108 * 9 := Int.mul_le_mul b26.2 (by omega) (by omega) (by omega)
    omega
  refine zb131_49 hT rfl hB3 hval (fun hz => hκ _ _ (fun D2 κ2 h2 => ?_))
  have hF2m : zFr (inL (remCL ++ [(25, some 2), (26, none)])) m m2 := (hF1.sub (inL_sub (by decide))).trans (hF2.sub (inL_sub (by decide)))
  generalize hM : (zu m2 17 10 (m2 17 10 + m 26 i * v)) = M at hz ⊢
  have hFM : zFr (inL (remCL ++ [(17, some 10), (25, some 2), (26, none)])) m M := by
    rw [← hM]
    exact (hF2m.sub (inL_sub (by decide))).set rfl
  have hM1 : zFr (inL [(17, some 10), (25, some 2), (26, none)]) m1 M := by
    rw [← hM]
    exact (hF2.sub (inL_sub (by decide))).set rfl
  have e10 : M 17 10 = m 17 10 + m 26 i * v := by rw [← hM, zu_sm rfl, hF2m 17 10 rfl]
  have f25 : M 25 2 = (N : Int) - 1 := by rw [← hM, zu_dn (by omega), g1]
  have f26 : ∀ j, j + 1 < N → M 26 j = if j < i then m 26 j else m 26 (j + 1) := fun j hj => by rw [← hM, zu_dn (by omega), g2 j hj, hF1 26 j rfl, hF1 26 (j + 1) rfl]
  have f75 : M 75 = m 75 := funext fun j => hFM 75 j rfl
  refine zb244_0 hT hz hp hv (fun x => by omega) (fun _ x => by rw [f75] at x; omega) (fun _ _ x => by omega) (fun _ _ _ x => by omega) (fun _ _ _ _ hz2 => ?_)
  have hFM2 : zFr (inL (remCL ++ [(17, some 10), (25, some 2), (26, none), (74, some 12)])) m (zu M 74 12 0) := (hFM.sub (inL_sub (by decide))).set rfl
  have hM2 : zFr (inL [(17, some 10), (25, some 2), (26, none), (74, some 12)]) m1 (zu M 74 12 0) := (hM1.sub (inL_sub (by decide))).set rfl
  have x10 : (zu M 74 12 0) 17 10 = m 17 10 + m 26 i * v := by rw [zu_dn (by omega), e10]
  have x25 : (zu M 74 12 0) 25 2 = (N : Int) - 1 := by rw [zu_dn (by omega), f25]
  have x26 : ∀ j, j + 1 < N → (zu M 74 12 0) 26 j = if j < i then m 26 j else m 26 (j + 1) := fun j hj => by rw [zu_dn (by omega), f26 j hj]
  generalize (zu M 74 12 0) = M' at hz2 hFM2 hM2 x10 x25 x26 ⊢
  have e75 : M' 75 = m 75 := funext fun j => hFM2 75 j rfl
  refine z_remR_75 hT hz2 (fun m3 hB4 hF3 hR => ?_)
  rw [e75] at hR
  have hF3b : zFr (inL [(74, some 35), (87, none)]) M' m3 := hF3.sub remWL
  have g75 : m3 75 = m 75 := (funext fun j => hF3b 75 j rfl).trans e75
  refine zb244_42 hT rfl hB4 (by omega) (by omega) (fun hz5 => ?_)
  rw [g75] at hz5 ⊢
  refine z_takes1 (N := N) hT hz5 (by rw [zu_off (by omega), g75]; omega) (by omega) (fun m5 hB5 hF5 y1 y2 y3 => ?_)
  refine zb244_70 hT rfl hB5 (by rw [← e26, Int.mul_comm]; exact hval) ?_
  have t35 : zFr (inL [(75, none)]) m3 m5 := (zFr.refl.set rfl).trans hF5
  have hF : zFr (inL (remCL ++ [(17, some 10), (25, some 2), (26, none), (74, some 12), (74, some 35), (75, none), (87, none)])) m m5 := ((hFM2.sub (inL_sub (by decide))).trans (hF3b.sub (inL_sub (by decide)))).trans (t35.sub (inL_sub (by decide)))
  have hFR : zFr (inL [(74, some 35), (75, none), (87, none)]) M' m5 := (hF3b.sub (inL_sub (by decide))).trans (t35.sub (inL_sub (by decide)))
  have z75 : ∀ x, (x < 36 ∨ x = 57) → m5 75 x = m 75 x := fun x hx => by rw [y2 x (by omega), zu_off (by omega), g75]
  have z58 : m5 75 58 = m 75 58 + v * m 75 (i + 36) := by rw [y2 58 (by omega), zu_sm rfl]
  have zbx : ∀ j, j + 1 < N → m5 75 (j + 36) = if j < i then m 75 (j + 36) else m 75 (j + 37) := fun j hj => by
    rw [y3 j hj, zu_off (by omega), zu_off (by omega), g75]
  refine h2 _ _ (fun _ => by rw [e26, Int.mul_comm]) ⟨n, k, ?_⟩
  have hh' : HouseRel n k m5 := by
    refine ⟨⟨(hF 17 0 rfl).trans n1, (hF 74 4 rfl).trans n2⟩, ⟨(hF 17 1 rfl).trans k1, (hF 74 6 rfl).trans k2⟩, fun p hp => ?_, ?_, ?_⟩
    · rw [hF 78 p rfl, hF 18 p rfl]
      exact hh p hp
    · obtain ⟨r1, r2, r3, r4, r5, r6⟩ := hRel
      refine ⟨fun p hp => ?_, fun c hc => ?_, ?_, fun j hj => ?_, ?_, ?_⟩
      · rw [hF 19 p rfl, hF 20 p rfl, z75 p (by omega), z75 (p + 6) (by omega)]
        exact r1 p hp
      · rw [hF 21 c rfl, hF 22 c rfl, hF 23 c rfl, z75 (c + 12) (by omega), z75 (c + 20) (by omega), z75 (c + 28) (by omega)]
        exact r2 c hc
      · rw [hFR 25 2 rfl, x25, y1]
      · rw [y1] at hj
        rw [hFR 26 j rfl, x26 j (by omega), zbx j (by omega), r4 j (by omega), r4 (j + 1) (by omega)]
      · rw [hF 17 11 rfl, z75 57 (by omega)]
        exact r5
      · rw [hFR 17 10 rfl, x10, z58, r6, e26, Int.mul_comm]
    · refine ⟨fun p hp => ?_, by rw [y1]; omega, by rw [z75 57 (by omega)]; exact hok.2.2.1, fun c hc => by rw [z75 (c + 20) (by omega)]; exact hok.2.2.2 c hc⟩
      rw [z75 p (by omega), z75 (p + 6) (by omega)]
      exact hok.1 p hp
  refine Inv_hu hI0 hB5 (.of hF rfl) hh' ?_ (by rw [z75 57 (by omega)]; exact i10)
  have a1 : Agree remCL m1 m5 := (Agree.of hM2 rfl).trans (.of hFR rfl)
  exact Undo_rem (by omega) (by omega) i6 hRel hok i10 hC a1 (.of hFM2 rfl) (.of t35 rfl) hR
end ZSell
end
-- 90.nearest.lean.txt
section
/-! nearest(). -/
theorem cost_rng {s w p q : Int} (hs : 0 ≤ s ∧ s ≤ 101) (hw : 0 ≤ w ∧ w ≤ 3) (hp : 0 ≤ p ∧ p ≤ 9) (hq : 0 ≤ q ∧ q ≤ 9) : 0 ≤ s * p + w * q ∧ s * p + w * q ≤ 1000 := by
  have h1 := Int.mul_nonneg hs.1 hp.1
  have h2 := Int.mul_nonneg hw.1 hq.1
  have h3 : s * p ≤ 101 * 9 := Int.mul_le_mul hs.2 hp.2 hp.1 (by omega)
  have h4 : w * q ≤ 3 * 9 := Int.mul_le_mul hw.2 hq.2 hq.1 (by omega)
  omega
theorem cost_wr {s w p q : Int} (hs : 0 ≤ s ∧ s ≤ 101) (hw : 0 ≤ w ∧ w ≤ 3) (hp : 0 ≤ p ∧ p ≤ 9) (hq : 0 ≤ q ∧ q ≤ 9) : 0 ≤ wr (s * p + w * q) ∧ wr (s * p + w * q) ≤ 1000 := by
  have h := cost_rng hs hw hp hq
  rw [wr_id (by omega) (by omega)]
  exact h
theorem mkA_cost {h v : Int} {g : Nat → Int} {c : Nat} (h1 : -1 ≤ g (c + 12)) (h2 : -1 ≤ g (c + 20)) (hv : 0 ≤ v ∧ v ≤ 99) : (0 ≤ (mkA h (g, 0, 0, 0) c v).2.1 ∧ (mkA h (g, 0, 0, 0) c v).2.1 ≤ 101) ∧ 0 ≤ (mkA h (g, 0, 0, 0) c v).2.2.1 ∧ (mkA h (g, 0, 0, 0) c v).2.2.1 ≤ 3 := by
  unfold mkA
  dsimp only
  by_cases q1 : g (c + 12) = v
  · rw [if_pos q1]
    exact ⟨⟨by dsimp only; omega, by dsimp only; omega⟩, by dsimp only; omega, by dsimp only; omega⟩
  · rw [if_neg q1]
    by_cases q2 : g (c + 12) + g (c + 20) < v
    · rw [if_pos q2]
      exact ⟨⟨by dsimp only; omega, by dsimp only; omega⟩, by dsimp only; omega, by dsimp only; omega⟩
    · rw [if_neg q2]
      by_cases q3 : v + h < g (c + 12) + g (c + 20)
      · rw [if_pos q3]
        exact ⟨⟨by dsimp only; omega, by dsimp only; omega⟩, by dsimp only; omega, by dsimp only; omega⟩
      · rw [if_neg q3]
        exact ⟨⟨by dsimp only; omega, by dsimp only; omega⟩, by dsimp only; omega, by dsimp only; omega⟩
/-- what a cloth costs to be made so long -/
noncomputable def cstV (m : zM) (l : Int) (c : Nat) : Int := (mkA (m 24 0) (m 75, 0, 0, 0) c l).2.1 * m 24 1 + (mkA (m 24 0) (m 75, 0, 0, 0) c l).2.2.1 * m 24 2
theorem mkA_c {h v : Int} {g g2 : Nat → Int} {c : Nat} (e1 : g2 (c + 12) = g (c + 12)) (e2 : g2 (c + 20) = g (c + 20)) : (mkA h (g2, 0, 0, 0) c v).2.1 = (mkA h (g, 0, 0, 0) c v).2.1 ∧ (mkA h (g2, 0, 0, 0) c v).2.2.1 = (mkA h (g, 0, 0, 0) c v).2.2.1 := by
  unfold mkA
  dsimp only
  by_cases q1 : g (c + 12) = v
  · rw [if_pos q1, if_pos (e1.trans q1)]
    exact ⟨rfl, rfl⟩
  · have q1' : ¬ g2 (c + 12) = v := fun x => q1 (e1.symm.trans x)
    rw [if_neg q1, if_neg q1']
    by_cases q2 : g (c + 12) + g (c + 20) < v
    · have q2' : g2 (c + 12) + g2 (c + 20) < v := by rw [e1, e2]; exact q2
      rw [if_pos q2, if_pos q2']
      refine ⟨?_, rfl⟩
      show 0 + (v - (g2 (c + 12) + g2 (c + 20))) = 0 + (v - (g (c + 12) + g (c + 20)))
      rw [e1, e2]
    · have q2' : ¬ g2 (c + 12) + g2 (c + 20) < v := by rw [e1, e2]; exact q2
      rw [if_neg q2, if_neg q2']
      by_cases q3 : v + h < g (c + 12) + g (c + 20)
      · have q3' : v + h < g2 (c + 12) + g2 (c + 20) := by rw [e1, e2]; exact q3
        rw [if_pos q3, if_pos q3']
        exact ⟨rfl, rfl⟩
      · have q3' : ¬ v + h < g2 (c + 12) + g2 (c + 20) := by rw [e1, e2]; exact q3
        rw [if_neg q3, if_neg q3']
        exact ⟨rfl, rfl⟩
/-- the first of the cheapest that may be taken: from c on j of them; f, a: found, and at what -/
noncomputable def nst (ok : Nat → Bool) (cst : Nat → Int) : Nat → Nat → Int → Int → Int
  | 0, _, f, _ => f
  | j + 1, c, f, a => if ok c = true ∧ (f < 0 ∨ cst c < a) then nst ok cst j (c + 1) (c : Int) (cst c) else nst ok cst j (c + 1) f a
theorem nst_yes {ok : Nat → Bool} {cst : Nat → Int} {j c : Nat} {f a : Int} (h1 : ok c = true) (h2 : f < 0 ∨ cst c < a) : nst ok cst (j + 1) c f a = nst ok cst j (c + 1) (c : Int) (cst c) := by
  rw [nst, if_pos ⟨h1, h2⟩]
theorem nst_no {ok : Nat → Bool} {cst : Nat → Int} {j c : Nat} {f a : Int} (h : ¬ ok c = true ∨ (¬ f < 0 ∧ ¬ cst c < a)) : nst ok cst (j + 1) c f a = nst ok cst j (c + 1) f a := by
  rw [nst, if_neg (fun q => by
    rcases h with h | h
    · exact h q.1
    · rcases q.2 with x | x
      · exact h.1 x
      · exact h.2 x)]
theorem nst_a {ok : Nat → Bool} {cst : Nat → Int} : ∀ (j c : Nat) (f a b : Int), f < 0 → nst ok cst j c f a = nst ok cst j c f b
  | 0, _, _, _, _, _ => rfl
  | j + 1, c, f, a, b, h => by
    by_cases q : ok c = true
    · rw [nst_yes q (Or.inl h), nst_yes q (Or.inl h)]
    · rw [nst_no (Or.inl q), nst_no (Or.inl q)]
      exact nst_a j (c + 1) f a b h
theorem nst_rng {ok : Nat → Bool} {cst : Nat → Int} : ∀ (j c : Nat) (f a : Int), (f = -2 ∨ 0 ≤ f) → (nst ok cst j c f a = -2 ∨ 0 ≤ nst ok cst j c f a)
  | 0, _, _, _, h => h
  | j + 1, c, f, a, h => by
    rw [nst]
    split
    · exact nst_rng j (c + 1) _ _ (Or.inr (by omega))
    · exact nst_rng j (c + 1) _ _ h
section ZNearest
variable {T : Nat → Nat → zG → (Option zA → zM → Prop) → Prop} {B : Int}
theorem z_costC (hT : zRules T) {D : Nat} {κ : Option zA → zM → Prop} {m : zM} {c : Nat} {l : Int} (hB : zB m) (hc : c ≤ 7) (hl : 0 ≤ l ∧ l ≤ 99) (hk : ∀ v, (0 ≤ v ∧ v ≤ 1000) → κ (some (zi v)) m) : T (D + 3) 34 (0, [(0, zr 17), (1, zi (c : Int)), (2, zi l)], [], m) κ := by
  have b21 : -1 ≤ m 21 c ∧ m 21 c ≤ 99 := hB 21 c
  have b22 : -1 ≤ m 22 c ∧ m 22 c ≤ 9 := hB 22 c
  have p1 : 0 ≤ m 24 1 ∧ m 24 1 ≤ 9 := hB 24 1
  have p2 : 0 ≤ m 24 2 ∧ m 24 2 ≤ 9 := hB 24 2
  refine zb34_0 hT hB hc hl (fun q _ => ?_) (fun q _ => ?_) (fun _ _ _ => ?_) (fun _ _ _ => ?_) (fun _ _ => ?_)
  · exact hk _ (cost_wr (by omega) (by omega) p1 p2)
  · exact hk _ (cost_wr (by omega) (by omega) p1 p2)
  · exact hk _ (cost_rng (by omega) (by omega) p1 p2)
  · exact hk _ (cost_rng (by omega) (by omega) p1 p2)
  · exact hk _ (cost_rng (by omega) (by omega) p1 p2)
theorem z_costR (hT : zRules T) {D : Nat} {κ : Option zA → zM → Prop} {m M : zM} {sc : zSc} {n k c p : Nat} (hI : Inv B sc n k m) (hBM : zB M) (hA : Agree coreK m M) (hc : c < k) (hp : p < n)
    (hk : ∀ v M1, (0 ≤ v ∧ v ≤ 1000) → zB M1 → Agree coreK m M1 → κ (some (zi v)) M1) : T (D + 172) 261 (0, [(0, zr 74), (1, zi (c : Int)), (2, zi (p : Int))], [], M) κ := by
  have i1 := hI.1
  have h4 := hI.2.2.2.1
  have b17 : 0 ≤ m 17 0 ∧ m 17 0 ≤ 6 := i1 17 0
  have b171 : 0 ≤ m 17 1 ∧ m 17 1 ≤ 8 := i1 17 1
  have n1 := h4.1.1
  have k1 := h4.2.1.1
  have bpl := (h4.2.2.2.2.1 p hp).1
  obtain ⟨pl, hpl⟩ : ∃ pl : Nat, m 75 p = (pl : Int) := ⟨(m 75 p).toNat, by omega⟩
  refine zb261_0 (D := D + 168) hT hBM (by omega) (by omega) ?_
  refine z_lay_75_91 (k := 0) (D := D + 170) hT (by omega) ?_
  have hA2 : Agree coreK m (z_cp M 75 91 0 0 59) := hA.trans (.of (L := [(91, none)]) (zFr.refl.cp (fun _ => rfl)) rfl)
  have hB2 : zB (z_cp M 75 91 0 0 59) := zB_cpB hBM rfl
  have x91 : ∀ j, j < 59 → (z_cp M 75 91 0 0 59) 91 j = m 75 j := fun j hj => by
    rw [z_cp_in (by omega), show 0 + (j - 0) = j by omega]
    exact hA 75 j rfl
  refine zb261_12 (D := D + 168) hT rfl hB2 (by omega) (by omega) (fun hz => ?_)
  have hA3 : Agree coreK m (zu (zu (zu (z_cp M 75 91 0 0 59) 74 31 0) 74 32 0) 74 33 0) := hA2.trans (.of (L := [(74, some 31), (74, some 32), (74, some 33)]) (((zFr.refl.set rfl).set rfl).set rfl) rfl)
  have y91 : ∀ j, j < 59 → (zu (zu (zu (z_cp M 75 91 0 0 59) 74 31 0) 74 32 0) 74 33 0) 91 j = m 75 j := fun j hj => by
    rw [zu_dn (by omega), zu_dn (by omega), zu_dn (by omega), x91 j hj]
  have hR : RelR 91 (zu (zu (zu (z_cp M 75 91 0 0 59) 74 31 0) 74 32 0) 74 33 0) ((zu (zu (zu (z_cp M 75 91 0 0 59) 74 31 0) 74 32 0) 74 33 0) 91, 0, 0, 0) :=
    ⟨rfl, by simp (disch := omega) only [zu_off, zu_sm], by simp (disch := omega) only [zu_off, zu_sm], by simp (disch := omega) only [zu_sm]⟩
  generalize (zu (zu (zu (z_cp M 75 91 0 0 59) 74 31 0) 74 32 0) 74 33 0) = M3 at hz hA3 y91 hR ⊢
  refine z_lawInF (d := 0) (pl := pl) hT hI hz (hA3.sub (fun q hq => List.mem_append.mpr (Or.inr (List.mem_append.mpr (Or.inl hq))))) (funext fun j => hA3 78 j rfl) (hA3 75 57 rfl) hp ((hA3 75 p rfl).trans hpl) (by omega) (fun M4 hB4 hF4 => ?_)
  refine zb261_28 (D := D + 168) hT rfl hB4 (by omega) laFB ?_
  have hA4 : Agree coreK m M4 := hA3.trans (.of hF4 rfl)
  have hR4 : RelR 91 M4 (M3 91, 0, 0, 0) := ⟨funext fun j => hF4 91 j rfl, (hF4 74 31 rfl).trans hR.2.1, (hF4 74 32 rfl).trans hR.2.2.1, (hF4 74 33 rfl).trans hR.2.2.2⟩
  refine z_makes_91 (D := D + 169) hT hB4 (by omega) laFB hR4 (fun M5 hB5 hF5 hR5 => ?_)
  have b12 : -1 ≤ m 75 (c + 12) ∧ m 75 (c + 12) ≤ 99 := zSg i1 75 12 20 (-1) 99 rfl (c + 12) (by omega) (by omega)
  have b20 : -1 ≤ m 75 (c + 20) ∧ m 75 (c + 20) ≤ 9 := zSg i1 75 20 28 (-1) 9 rfl (c + 20) (by omega) (by omega)
  have hc2 := mkA_cost (h := M4 79 0) (v := laF m p pl 0) (g := M3 91) (c := c) (by rw [y91 (c + 12) (by omega)]; omega) (by rw [y91 (c + 20) (by omega)]; omega) laFB
  refine zb261_31 (D := D + 168) hT rfl hB5 ?_
  have hA5 : Agree coreK m M5 := hA4.trans (.of (hF5.sub mkL91) rfl)
  have p1 : 0 ≤ M5 79 1 ∧ M5 79 1 ≤ 9 := hB5 79 1
  have p2 : 0 ≤ M5 79 2 ∧ M5 79 2 ≤ 9 := hB5 79 2
  rw [Int.mul_comm (M5 79 1), Int.mul_comm (M5 79 2), hR5.2.1, hR5.2.2.1]
  exact hk _ M5 (cost_wr hc2.1 hc2.2 p1 p2) hB5 hA5
theorem z_costCx (hT : zRules T) {D : Nat} {κ : Option zA → zM → Prop} {m M : zM} {c : Nat} {l : Int} (hB : zB M) (hc : c ≤ 7) (hl : 0 ≤ l ∧ l ≤ 99) (e21 : M 21 c = m 75 (c + 12)) (e22 : M 22 c = m 75 (c + 20)) (h0 : 0 ≤ m 75 (c + 20)) (e24 : ∀ j, M 24 j = m 24 j) (hk : (0 ≤ cstV m l c ∧ cstV m l c ≤ 1000) → κ (some (zi (cstV m l c))) M) : T (D + 3) 34 (0, [(0, zr 17), (1, zi (c : Int)), (2, zi l)], [], M) κ := by
  have b21 : -1 ≤ M 21 c ∧ M 21 c ≤ 99 := hB 21 c
  have b22 : -1 ≤ M 22 c ∧ M 22 c ≤ 9 := hB 22 c
  have p1 : 0 ≤ M 24 1 ∧ M 24 1 ≤ 9 := hB 24 1
  have p2 : 0 ≤ M 24 2 ∧ M 24 2 ≤ 9 := hB 24 2
  rw [e24] at p1 p2
  have hv := mkA_cost (h := m 24 0) (v := l) (g := m 75) (c := c) (by omega) (by omega) hl
  have hr : 0 ≤ cstV m l c ∧ cstV m l c ≤ 1000 := cost_rng hv.1 hv.2 p1 p2
  have hk := hk hr
  refine zb34_0 hT hB hc hl (fun q q2 => ?_) (fun q q2 => by omega) (fun q q2 q3 => ?_) (fun q q2 q3 => ?_) (fun q q2 => ?_)
  · have e : cstV m l c = (l - (M 21 c + M 22 c)) * M 24 1 + 3 * M 24 2 := by
      unfold cstV mkA
      dsimp only
      rw [if_neg (by omega), if_pos (by omega)]
      dsimp only
      rw [e21, e22, e24, e24, Int.zero_add, Int.zero_add]
    rw [← e, wr_id (by omega) (by omega)]
    exact hk
  · have e : cstV m l c = 0 * M 24 1 + 2 * M 24 2 := by
      rw [e24] at q3
      unfold cstV mkA
      dsimp only
      rw [if_neg (by omega), if_neg (by omega), if_pos (by omega)]
      dsimp only
      rw [e24, e24, Int.zero_add]
    rw [← e]
    exact hk
  · have e : cstV m l c = 0 * M 24 1 + 1 * M 24 2 := by
      rw [e24] at q3
      unfold cstV mkA
      dsimp only
      rw [if_neg (by omega), if_neg (by omega), if_neg (by omega)]
      dsimp only
      rw [e24, e24, Int.zero_add]
    rw [← e]
    exact hk
  · have e : cstV m l c = 0 * M 24 1 + 0 * M 24 2 := by
      unfold cstV mkA
      dsimp only
      rw [if_pos (by omega)]
      dsimp only
      rw [e24, e24]
    rw [← e]
    exact hk
theorem z_costRx (hT : zRules T) {D : Nat} {κ : Option zA → zM → Prop} {m M : zM} {sc : zSc} {n k c p pl : Nat} (hI : Inv B sc n k m) (hBM : zB M) (hA : Agree coreK m M) (hc : c < k) (hp : p < n) (hpl : m 75 p = (pl : Int))
    (hk : ∀ M1, (0 ≤ cstV m (LW m (m 18 p) (p : Int) pl (m 17 11)) c ∧ cstV m (LW m (m 18 p) (p : Int) pl (m 17 11)) c ≤ 1000) → zB M1 → Agree coreK m M1 → κ (some (zi (cstV m (LW m (m 18 p) (p : Int) pl (m 17 11)) c))) M1) : T (D + 172) 261 (0, [(0, zr 74), (1, zi (c : Int)), (2, zi (p : Int))], [], M) κ := by
  have i1 := hI.1
  have h4 := hI.2.2.2.1
  have b17 : 0 ≤ m 17 0 ∧ m 17 0 ≤ 6 := i1 17 0
  have b171 : 0 ≤ m 17 1 ∧ m 17 1 ≤ 8 := i1 17 1
  have n1 := h4.1.1
  have k1 := h4.2.1.1
  have bpl := (h4.2.2.2.2.1 p hp).1
  refine zb261_0 (D := D + 168) hT hBM (by omega) (by omega) ?_
  refine z_lay_75_91 (k := 0) (D := D + 170) hT (by omega) ?_
  have hA2 : Agree coreK m (z_cp M 75 91 0 0 59) := hA.trans (.of (L := [(91, none)]) (zFr.refl.cp (fun _ => rfl)) rfl)
  have hB2 : zB (z_cp M 75 91 0 0 59) := zB_cpB hBM rfl
  have x91 : ∀ j, j < 59 → (z_cp M 75 91 0 0 59) 91 j = m 75 j := fun j hj => by
    rw [z_cp_in (by omega), show 0 + (j - 0) = j by omega]
    exact hA 75 j rfl
  refine zb261_12 (D := D + 168) hT rfl hB2 (by omega) (by omega) (fun hz => ?_)
  have hA3 : Agree coreK m (zu (zu (zu (z_cp M 75 91 0 0 59) 74 31 0) 74 32 0) 74 33 0) := hA2.trans (.of (L := [(74, some 31), (74, some 32), (74, some 33)]) (((zFr.refl.set rfl).set rfl).set rfl) rfl)
  have y91 : ∀ j, j < 59 → (zu (zu (zu (z_cp M 75 91 0 0 59) 74 31 0) 74 32 0) 74 33 0) 91 j = m 75 j := fun j hj => by
    rw [zu_dn (by omega), zu_dn (by omega), zu_dn (by omega), x91 j hj]
  have hR : RelR 91 (zu (zu (zu (z_cp M 75 91 0 0 59) 74 31 0) 74 32 0) 74 33 0) ((zu (zu (zu (z_cp M 75 91 0 0 59) 74 31 0) 74 32 0) 74 33 0) 91, 0, 0, 0) :=
    ⟨rfl, by simp (disch := omega) only [zu_off, zu_sm], by simp (disch := omega) only [zu_off, zu_sm], by simp (disch := omega) only [zu_sm]⟩
  generalize (zu (zu (zu (z_cp M 75 91 0 0 59) 74 31 0) 74 32 0) 74 33 0) = M3 at hz hA3 y91 hR ⊢
  refine z_lawInF (d := 0) (pl := pl) hT hI hz (hA3.sub (fun q hq => List.mem_append.mpr (Or.inr (List.mem_append.mpr (Or.inl hq))))) (funext fun j => hA3 78 j rfl) (hA3 75 57 rfl) hp ((hA3 75 p rfl).trans hpl) (by omega) (fun M4 hB4 hF4 => ?_)
  refine zb261_28 (D := D + 168) hT rfl hB4 (by omega) laFB ?_
  have hA4 : Agree coreK m M4 := hA3.trans (.of hF4 rfl)
  have hR4 : RelR 91 M4 (M3 91, 0, 0, 0) := ⟨funext fun j => hF4 91 j rfl, (hF4 74 31 rfl).trans hR.2.1, (hF4 74 32 rfl).trans hR.2.2.1, (hF4 74 33 rfl).trans hR.2.2.2⟩
  refine z_makes_91 (D := D + 169) hT hB4 (by omega) laFB hR4 (fun M5 hB5 hF5 hR5 => ?_)
  have b12 : -1 ≤ m 75 (c + 12) ∧ m 75 (c + 12) ≤ 99 := zSg i1 75 12 20 (-1) 99 rfl (c + 12) (by omega) (by omega)
  have b20 : -1 ≤ m 75 (c + 20) ∧ m 75 (c + 20) ≤ 9 := zSg i1 75 20 28 (-1) 9 rfl (c + 20) (by omega) (by omega)
  have hc2 := mkA_cost (h := M4 79 0) (v := laF m p pl 0) (g := M3 91) (c := c) (by rw [y91 (c + 12) (by omega)]; omega) (by rw [y91 (c + 20) (by omega)]; omega) laFB
  refine zb261_31 (D := D + 168) hT rfl hB5 ?_
  have hA5 : Agree coreK m M5 := hA4.trans (.of (hF5.sub mkL91) rfl)
  have p1 : 0 ≤ M5 79 1 ∧ M5 79 1 ≤ 9 := hB5 79 1
  have p2 : 0 ≤ M5 79 2 ∧ M5 79 2 ≤ 9 := hB5 79 2
  have eL : laF m p pl 0 = LW m (m 18 p) (p : Int) pl (m 17 11) := by
    unfold laF
    rw [show m 17 11 + ((0 : Nat) : Int) = m 17 11 by omega]
  have e79 : ∀ j, j < 3 → M4 79 j = m 24 j := fun j hj => (hA4 79 j rfl).trans (hI.2.2.2.2.1 j hj)
  have e795 : ∀ j, j < 3 → M5 79 j = m 24 j := fun j hj => (hA5 79 j rfl).trans (hI.2.2.2.2.1 j hj)
  have hm := mkA_c (h := m 24 0) (v := laF m p pl 0) (g := m 75) (g2 := M3 91) (c := c) (y91 _ (by omega)) (y91 _ (by omega))
  rw [e79 0 (by omega)] at hc2 hR5
  rw [hm.1, hm.2] at hc2
  rw [Int.mul_comm (M5 79 1), Int.mul_comm (M5 79 2), hR5.2.1, hR5.2.2.1, hm.1, hm.2, e795 1 (by omega), e795 2 (by omega), eL]
  rw [e795 1 (by omega)] at p1
  rw [e795 2 (by omega)] at p2
  rw [eL] at hc2
  have hr := cost_rng hc2.1 hc2.2 p1 p2
  have hr2 : 0 ≤ cstV m (LW m (m 18 p) (p : Int) pl (m 17 11)) c ∧ cstV m (LW m (m 18 p) (p : Int) pl (m 17 11)) c ≤ 1000 := hr
  rw [wr_id (by omega) (by omega)]
  exact hk M5 hr2 hB5 hA5
/-- who may be given a cloth: none wears it, or the one itself -/
noncomputable def nOk (m : zM) (n p : Nat) (c : Nat) : Bool := decide (wIx (fun q => m 75 (q + 6)) (c : Int) 0 n = -1 ∨ wIx (fun q => m 75 (q + 6)) (c : Int) 0 n = (p : Int))
theorem w_nearest (hT : zRules T) {v : Int} (hv : isI v) : Way T 143 262 [(0, zr 1), (1, zi v)] [(0, zr 74), (1, zi v)] 5 173 B B True := by
  rintro D m sc ⟨n, k, hI⟩ κ hκ
  have hI0 := hI
  obtain ⟨i1, i2, i3, i4, i5, i6, i7, i8, i9, i10, i11⟩ := hI
  obtain ⟨⟨n1, n2⟩, ⟨k1, k2⟩, hh, hRel, hok⟩ := i4
  have b17 : 0 ≤ m 17 0 ∧ m 17 0 ≤ 6 := i1 17 0
  have b171 : 0 ≤ m 17 1 ∧ m 17 1 ≤ 8 := i1 17 1
  have fin : ∀ (κ2 : Option zA → zM → Prop) (x y : Int) (M1 : zM), x = y → (∀ r2 m2, (True → some (zi x) = r2) → (∃ n k, Inv B sc n k m2) → κ2 r2 m2) → zB M1 → Agree coreK m M1 → κ2 (some (zi y)) M1 := fun κ2 x y M1 e h2 hB1 hA1 => h2 _ _ (fun _ => by rw [e]) ⟨n, k, Inv_fr hA1 hB1 hI0⟩
  have t12 : ∀ M0, Agree coreK m M0 → Agree coreK m (zu M0 74 12 0) := fun M0 hA0 => hA0.trans (.of (L := [(74, some 12)]) (zFr.refl.set rfl) rfl)
  -- none such
  have no : ¬ (0 ≤ v ∧ v < n) → κ (some (zi (-1))) m := fun hno => hκ _ _ (fun D2 κ2 h2 => zb262_0 (D := D2 + 168) hT i1 hv (fun _ hz => fin κ2 (-1) (-1) _ rfl h2 hz (t12 m (fun _ _ _ => rfl))) (fun _ _ hz => fin κ2 (-1) (-1) _ rfl h2 hz (t12 m (fun _ _ _ => rfl))) (fun q1 q2 => absurd ⟨by omega, by omega⟩ hno))
  refine zb143_0 hT i1 hv (fun q => no (by omega)) (fun q1 q2 => no (by omega)) (fun q1 q2 => ?_)
  obtain ⟨p, rfl⟩ : ∃ a : Nat, v = (a : Int) := ⟨v.toNat, by omega⟩
  obtain ⟨r1, r2⟩ := hRel.1 p (by omega)
  have h18 := (hh p (by omega)).2
  have bpl := (hok.1 p (by omega)).1
  obtain ⟨pl, hpl⟩ : ∃ pl : Nat, m 75 p = (pl : Int) := ⟨(m 75 p).toNat, by omega⟩
  have hl : 0 ≤ LW m (m 18 p) (p : Int) pl (m 17 11) ∧ LW m (m 18 p) (p : Int) pl (m 17 11) ≤ 99 := LWB
  -- the reference, from wherever what matters is the same
  have ref : ∀ (f : Int) (M0 : zM), f = nst (nOk m n p) (cstV m (LW m (m 18 p) (p : Int) pl (m 17 11))) k 0 (-2) 0 → zB M0 → Agree coreK m M0 → κ (some (zi f)) M0 := by
    intro r M0 hr hB0 hA0
    refine hκ _ _ (fun D2 κ2 h2 => ?_)
    have e4 : M0 74 4 = (n : Int) := (hA0 74 4 rfl).trans n2
    refine zb262_0 (D := D2 + 168) hT hB0 hv (fun q => by omega) (fun _ q => by omega) (fun q1 q2 hz => ?_)
    have loop : ∀ (j t : Nat) (f a : Int) (M : zM), t + j = k → (f = -2 ∧ a = 100000000 ∨ (0 ≤ f ∧ f ≤ 7)) → (0 ≤ a ∧ a ≤ 100000000) → nst (nOk m n p) (cstV m (LW m (m 18 p) (p : Int) pl (m 17 11))) j t f a = r → zB M → Agree coreK m M → T (D2 + 173) 262 (25, [(0, zr 74), (1, zi (p : Int)), (2, zi f), (3, zi a), (4, zi (t : Int))], [], M) κ2 := by
      intro j
      induction j with
      | zero =>
        intro t f a M ht hf ha hw hBM hAM
        have et : t = k := by omega
        subst et
        have e6 : M 74 6 = (t : Int) := (hAM 74 6 rfl).trans k2
        have hw : f = r := hw
        refine zb262_25 (D := D2 + 168) hT rfl hBM (by omega) (by omega) ha (by omega) (fun _ _ hz2 => fin κ2 r f _ hw.symm h2 hz2 ?_) (fun _ q => ?_) (fun q => by omega)
        · exact hAM.trans (.of (L := [(74, some 11), (81, none)]) (((zFr.refl.set rfl).set rfl).set rfl) rfl)
        · exact fin κ2 r (-2) _ (by omega) h2 hBM hAM
      | succ j ih =>
        intro t f a M ht hf ha hw hBM hAM
        have e6 : M 74 6 = (k : Int) := (hAM 74 6 rfl).trans k2
        refine zb262_25 (D := D2 + 168) hT rfl hBM (by omega) (by omega) ha (by omega) (fun q => by omega) (fun q => by omega) (fun _ => ?_)
        refine z_wearer (n := n) (D := D2 + 171) hT hBM (by omega) ((hAM 74 4 rfl).trans n2) ?_
        rw [show (fun p => M 75 (p + 6)) = (fun p => m 75 (p + 6)) from funext fun q => hAM 75 (q + 6) rfl]
        have hr := wIx_rng (f := fun p => m 75 (p + 6)) (c := (t : Int)) n 0
        have sub : (wIx (fun p => m 75 (p + 6)) (t : Int) 0 n = -1 ∨ wIx (fun p => m 75 (p + 6)) (t : Int) 0 n = (p : Int)) → T (D2 + 172) 261 (0, [(0, zr 74), (1, zi (t : Int)), (2, zi (p : Int))], [], M) (fun r m1 => T (D2 + 173) 262 (68, [(0, zr 74), (1, zi (p : Int)), (2, zi f), (3, zi a), (4, zi (t : Int)), (5, zi (wIx (fun p => m 75 (p + 6)) (t : Int) 0 n))], r.toList ++ [], m1) κ2) := by
          intro hyes
          have hy : nOk m n p t = true := decide_eq_true hyes
          refine z_costRx (pl := pl) hT hI0 hBM hAM (by omega) (by omega) hpl (fun M1 hv hB1 hA1 => ?_)
          refine zb262_68 (D := D2 + 168) hT rfl hB1 (by omega) (by omega) ha (by omega) (by omega) (fun q => ?_) (fun q => ?_)
          · refine ih (t + 1) _ _ M1 (by omega) (Or.inr (by omega)) (by omega) ?_ hB1 hA1
            rw [← hw, nst_yes hy (Or.inr q)]
          · refine ih (t + 1) _ _ M1 (by omega) hf ha ?_ hB1 hA1
            rw [← hw, nst_no (Or.inr ⟨by omega, q⟩)]
        refine zb262_44 (D := D2 + 168) hT rfl hBM (by omega) (by omega) ha (by omega) (by omega) (fun q => sub (Or.inl q)) (fun _ q => sub (Or.inr q)) (fun q3 q4 => ih (t + 1) f a M (by omega) hf ha ?_ hBM hAM)
        have hn : ¬ nOk m n p t = true := fun q => by
          rcases of_decide_eq_true q with x | x
          · exact q3 x
          · exact q4 x
        rw [← hw, nst_no (Or.inl hn)]
    exact loop k 0 (-2) 100000000 _ (by omega) (Or.inl ⟨rfl, rfl⟩) (by omega) (by rw [hr]; exact nst_a k 0 (-2) _ _ (by decide)) hz (t12 M0 hA0)
  refine z_lawNow (pl := pl) hT i1 (by omega) (by omega) (by omega) (by omega) i3.1 (fun m1 hB1 hF1 => ?_)
  refine zb143_18 hT rfl hB1 (by omega) LWB ?_
  generalize hgl : LW m (m 18 p) (p : Int) pl (m 17 11) = l at hl ref ⊢
  have hA1 : Agree coreK m m1 := .of (hF1.sub rowL13) rfl
  have loop : ∀ (j t : Nat) (f a : Int), t + j = k → (f = -2 ∨ (0 ≤ f ∧ f ≤ 7)) → (0 ≤ a ∧ a ≤ 1000000) → nst (nOk m n p) (cstV m l) j t f a = nst (nOk m n p) (cstV m l) k 0 (-2) 0 → T (D + 5) 143 (28, [(0, zr 1), (1, zi (p : Int)), (2, zi l), (3, zi f), (4, zi a), (5, zi (t : Int))], [], m1) κ := by
    intro j
    induction j with
    | zero =>
      intro t f a ht hf ha hw
      have e6 : m1 17 1 = (k : Int) := (hA1 17 1 rfl).trans k1
      refine zb143_28 hT rfl hB1 (by omega) hl (by omega) ha (by omega) (fun _ _ => ref f _ hw hB1 hA1) (fun _ _ hz => ref f _ hw hz ?_) (fun q => by omega)
      exact hA1.trans (.of (L := [(72, some 1), (73, none)]) ((zFr.refl.set rfl).set rfl) rfl)
    | succ j ih =>
      intro t f a ht hf ha hw
      have e6 : m1 17 1 = (k : Int) := (hA1 17 1 rfl).trans k1
      refine zb143_28 hT rfl hB1 (by omega) hl (by omega) ha (by omega) (fun q => by omega) (fun q => by omega) (fun _ => ?_)
      refine z_wearerOf (n := n) (D := D + 3) hT hB1 (by omega) ((hA1 17 0 rfl).trans n1) ?_
      have ew : wIx (m1 20) (t : Int) 0 n = wIx (fun q => m 75 (q + 6)) (t : Int) 0 n := wIx_congr n 0 (fun i _ hi => (hF1 20 i rfl).trans (hRel.1 i (by omega)).2)
      rw [ew]
      have hr := wIx_rng (f := fun q => m 75 (q + 6)) (c := (t : Int)) n 0
      refine zb143_49 hT rfl hB1 (by omega) hl (by omega) ha (by omega) (by omega) ?_
      obtain ⟨x1, x2, -⟩ := hRel.2.1 t (by omega)
      refine z_costCx (D := D + 1) (m := m) hT hB1 (by omega) hl ((hF1 21 t rfl).trans x1) ((hF1 22 t rfl).trans x2) (hok.2.2.2 t (by omega)) (fun j => hF1 24 j rfl) (fun hv => ?_)
      have yes : (wIx (fun q => m 75 (q + 6)) (t : Int) 0 n = -1 ∨ wIx (fun q => m 75 (q + 6)) (t : Int) 0 n = (p : Int)) → (f < 0 ∨ cstV m l t < a) → T (D + 5) 143 (28, [(0, zr 1), (1, zi (p : Int)), (2, zi l), (3, zi (t : Int)), (4, zi (cstV m l t)), (5, zi ((t : Int) + 1))], [], m1) κ := fun g1 g2 =>
        ih (t + 1) _ _ (by omega) (Or.inr (by omega)) (by omega) (by rw [← hw]; exact (nst_yes (decide_eq_true g1) g2).symm)
      have nop : (¬ (wIx (fun q => m 75 (q + 6)) (t : Int) 0 n = -1 ∨ wIx (fun q => m 75 (q + 6)) (t : Int) 0 n = (p : Int)) ∨ (¬ f < 0 ∧ ¬ cstV m l t < a)) → T (D + 5) 143 (28, [(0, zr 1), (1, zi (p : Int)), (2, zi l), (3, zi f), (4, zi a), (5, zi ((t : Int) + 1))], [], m1) κ := fun g =>
        ih (t + 1) _ _ (by omega) hf ha (by
          rw [← hw]
          exact (nst_no (g.imp (fun g1 q => g1 (of_decide_eq_true q)) id)).symm)
      refine zb143_61 hT rfl hB1 (by omega) hl (by omega) ha (by omega) (by omega) (by omega) ?_ ?_ ?_ ?_ ?_ ?_ ?_
      · exact fun w f0 => yes (Or.inl w) (Or.inl f0)
      · exact fun w f0 v0 => nop (Or.inr ⟨f0, v0⟩)
      · exact fun w f0 v0 => yes (Or.inl w) (Or.inr v0)
      · exact fun w0 w1 => nop (Or.inl (fun q => q.elim w0 w1))
      · exact fun w0 w1 f0 => yes (Or.inr w1) (Or.inl f0)
      · exact fun w0 w1 f0 v0 => nop (Or.inr ⟨f0, v0⟩)
      · exact fun w0 w1 f0 v0 => yes (Or.inr w1) (Or.inr v0)
  exact loop k 0 (-2) 0 (by omega) (Or.inl rfl) (by omega) rfl
end ZNearest
end
