section ZBlocks
variable {T : Nat → Nat → zG → (Option zA → zM → Prop) → Prop}
theorem zb293_0r (hT : zRules T) {D : Nat} {κ : Option zA → zM → Prop} {m : zM} {i : Int} 
    (o1 : κ (some (zi (wr (z_and (((z_and (((z_and (i - (z_and (z_ush i 1) 1431655765)) 858993459) + (z_and (z_ush (i - (z_and (z_ush i 1) 1431655765)) 2) 858993459)) + (z_ush ((z_and (i - (z_and (z_ush i 1) 1431655765)) 858993459) + (z_and (z_ush (i - (z_and (z_ush i 1) 1431655765)) 2) 858993459)) 4)) 252645135) + (z_ush (z_and (((z_and (i - (z_and (z_ush i 1) 1431655765)) 858993459) + (z_and (z_ush (i - (z_and (z_ush i 1) 1431655765)) 2) 858993459)) + (z_ush ((z_and (i - (z_and (z_ush i 1) 1431655765)) 858993459) + (z_and (z_ush (i - (z_and (z_ush i 1) 1431655765)) 2) 858993459)) 4)) 252645135) 8)) + (z_ush ((z_and (((z_and (i - (z_and (z_ush i 1) 1431655765)) 858993459) + (z_and (z_ush (i - (z_and (z_ush i 1) 1431655765)) 2) 858993459)) + (z_ush ((z_and (i - (z_and (z_ush i 1) 1431655765)) 858993459) + (z_and (z_ush (i - (z_and (z_ush i 1) 1431655765)) 2) 858993459)) 4)) 252645135) + (z_ush (z_and (((z_and (i - (z_and (z_ush i 1) 1431655765)) 858993459) + (z_and (z_ush (i - (z_and (z_ush i 1) 1431655765)) 2) 858993459)) + (z_ush ((z_and (i - (z_and (z_ush i 1) 1431655765)) 858993459) + (z_and (z_ush (i - (z_and (z_ush i 1) 1431655765)) 2) 858993459)) 4)) 252645135) 8)) 16)) 63)))) m) :
    T (D + 1) 293 (0, [(0, zi i)], [], m) κ :=
  hT.1 [] 6 (D + 1) 293 _ κ (hT.1 [] 6 (D + 1) 293 (8, [(0, zi i)], [zi (z_and (z_ush i 1) 1431655765), zi i], m) _ (hT.1 [] 6 (D + 1) 293 (16, [(0, zi (i - (z_and (z_ush i 1) 1431655765)))], [zi (i - (z_and (z_ush i 1) 1431655765)), zi (z_and (i - (z_and (z_ush i 1) 1431655765)) 858993459)], m) _ (hT.1 [] 6 (D + 1) 293 (24, [(0, zi ((z_and (i - (z_and (z_ush i 1) 1431655765)) 858993459) + (z_and (z_ush (i - (z_and (z_ush i 1) 1431655765)) 2) 858993459)))], [], m) _ (hT.1 [] 6 (D + 1) 293 (32, [(0, zi ((z_and (i - (z_and (z_ush i 1) 1431655765)) 858993459) + (z_and (z_ush (i - (z_and (z_ush i 1) 1431655765)) 2) 858993459)))], [zi 252645135, zi (((z_and (i - (z_and (z_ush i 1) 1431655765)) 858993459) + (z_and (z_ush (i - (z_and (z_ush i 1) 1431655765)) 2) 858993459)) + (z_ush ((z_and (i - (z_and (z_ush i 1) 1431655765)) 858993459) + (z_and (z_ush (i - (z_and (z_ush i 1) 1431655765)) 2) 858993459)) 4))], m) _ (hT.1 [] 6 (D + 1) 293 (39, [(0, zi (z_and (((z_and (i - (z_and (z_ush i 1) 1431655765)) 858993459) + (z_and (z_ush (i - (z_and (z_ush i 1) 1431655765)) 2) 858993459)) + (z_ush ((z_and (i - (z_and (z_ush i 1) 1431655765)) 858993459) + (z_and (z_ush (i - (z_and (z_ush i 1) 1431655765)) 2) 858993459)) 4)) 252645135))], [zi (z_ush (z_and (((z_and (i - (z_and (z_ush i 1) 1431655765)) 858993459) + (z_and (z_ush (i - (z_and (z_ush i 1) 1431655765)) 2) 858993459)) + (z_ush ((z_and (i - (z_and (z_ush i 1) 1431655765)) 858993459) + (z_and (z_ush (i - (z_and (z_ush i 1) 1431655765)) 2) 858993459)) 4)) 252645135) 8), zi (z_and (((z_and (i - (z_and (z_ush i 1) 1431655765)) 858993459) + (z_and (z_ush (i - (z_and (z_ush i 1) 1431655765)) 2) 858993459)) + (z_ush ((z_and (i - (z_and (z_ush i 1) 1431655765)) 858993459) + (z_and (z_ush (i - (z_and (z_ush i 1) 1431655765)) 2) 858993459)) 4)) 252645135)], m) _ (hT.1 [] 6 (D + 1) 293 (46, [(0, zi ((z_and (((z_and (i - (z_and (z_ush i 1) 1431655765)) 858993459) + (z_and (z_ush (i - (z_and (z_ush i 1) 1431655765)) 2) 858993459)) + (z_ush ((z_and (i - (z_and (z_ush i 1) 1431655765)) 858993459) + (z_and (z_ush (i - (z_and (z_ush i 1) 1431655765)) 2) 858993459)) 4)) 252645135) + (z_ush (z_and (((z_and (i - (z_and (z_ush i 1) 1431655765)) 858993459) + (z_and (z_ush (i - (z_and (z_ush i 1) 1431655765)) 2) 858993459)) + (z_ush ((z_and (i - (z_and (z_ush i 1) 1431655765)) 858993459) + (z_and (z_ush (i - (z_and (z_ush i 1) 1431655765)) 2) 858993459)) 4)) 252645135) 8)))], [zi (z_ush ((z_and (((z_and (i - (z_and (z_ush i 1) 1431655765)) 858993459) + (z_and (z_ush (i - (z_and (z_ush i 1) 1431655765)) 2) 858993459)) + (z_ush ((z_and (i - (z_and (z_ush i 1) 1431655765)) 858993459) + (z_and (z_ush (i - (z_and (z_ush i 1) 1431655765)) 2) 858993459)) 4)) 252645135) + (z_ush (z_and (((z_and (i - (z_and (z_ush i 1) 1431655765)) 858993459) + (z_and (z_ush (i - (z_and (z_ush i 1) 1431655765)) 2) 858993459)) + (z_ush ((z_and (i - (z_and (z_ush i 1) 1431655765)) 858993459) + (z_and (z_ush (i - (z_and (z_ush i 1) 1431655765)) 2) 858993459)) 4)) 252645135) 8)) 16), zi ((z_and (((z_and (i - (z_and (z_ush i 1) 1431655765)) 858993459) + (z_and (z_ush (i - (z_and (z_ush i 1) 1431655765)) 2) 858993459)) + (z_ush ((z_and (i - (z_and (z_ush i 1) 1431655765)) 858993459) + (z_and (z_ush (i - (z_and (z_ush i 1) 1431655765)) 2) 858993459)) 4)) 252645135) + (z_ush (z_and (((z_and (i - (z_and (z_ush i 1) 1431655765)) 858993459) + (z_and (z_ush (i - (z_and (z_ush i 1) 1431655765)) 2) 858993459)) + (z_ush ((z_and (i - (z_and (z_ush i 1) 1431655765)) 858993459) + (z_and (z_ush (i - (z_and (z_ush i 1) 1431655765)) 2) 858993459)) 4)) 252645135) 8))], m) _ (o1)))))))
theorem zb293_0 (hT : zRules T) {D : Nat} {κ : Option zA → zM → Prop} {m : zM} {i : Int}  (h_i : (-2147483648) ≤ i ∧ i ≤ 2147483647) 
    (k1 : κ (some (zi (z_and (((z_and (((z_and (i - (z_and (z_ush i 1) 1431655765)) 858993459) + (z_and (z_ush (i - (z_and (z_ush i 1) 1431655765)) 2) 858993459)) + (z_ush ((z_and (i - (z_and (z_ush i 1) 1431655765)) 858993459) + (z_and (z_ush (i - (z_and (z_ush i 1) 1431655765)) 2) 858993459)) 4)) 252645135) + (z_ush (z_and (((z_and (i - (z_and (z_ush i 1) 1431655765)) 858993459) + (z_and (z_ush (i - (z_and (z_ush i 1) 1431655765)) 2) 858993459)) + (z_ush ((z_and (i - (z_and (z_ush i 1) 1431655765)) 858993459) + (z_and (z_ush (i - (z_and (z_ush i 1) 1431655765)) 2) 858993459)) 4)) 252645135) 8)) + (z_ush ((z_and (((z_and (i - (z_and (z_ush i 1) 1431655765)) 858993459) + (z_and (z_ush (i - (z_and (z_ush i 1) 1431655765)) 2) 858993459)) + (z_ush ((z_and (i - (z_and (z_ush i 1) 1431655765)) 858993459) + (z_and (z_ush (i - (z_and (z_ush i 1) 1431655765)) 2) 858993459)) 4)) 252645135) + (z_ush (z_and (((z_and (i - (z_and (z_ush i 1) 1431655765)) 858993459) + (z_and (z_ush (i - (z_and (z_ush i 1) 1431655765)) 2) 858993459)) + (z_ush ((z_and (i - (z_and (z_ush i 1) 1431655765)) 858993459) + (z_and (z_ush (i - (z_and (z_ush i 1) 1431655765)) 2) 858993459)) 4)) 252645135) 8)) 16)) 63))) m) :
    T (D + 1) 293 (0, [(0, zi i)], [], m) κ := by
  have hb1 : (-2147483648) ≤ (z_ush i 1) ∧ (z_ush i 1) ≤ 2147483647 := z_ushB i 1
  have hb2 : 0 ≤ (z_and (z_ush i 1) 1431655765) ∧ (z_and (z_ush i 1) 1431655765) ≤ 1431655765 := z_andC (z_ush i 1) 1431655765 (by decide)
  have hb3 : 0 ≤ (z_and (i - (z_and (z_ush i 1) 1431655765)) 858993459) ∧ (z_and (i - (z_and (z_ush i 1) 1431655765)) 858993459) ≤ 858993459 := z_andC (i - (z_and (z_ush i 1) 1431655765)) 858993459 (by decide)
  have hb4 : (-2147483648) ≤ (z_ush (i - (z_and (z_ush i 1) 1431655765)) 2) ∧ (z_ush (i - (z_and (z_ush i 1) 1431655765)) 2) ≤ 2147483647 := z_ushB (i - (z_and (z_ush i 1) 1431655765)) 2
  have hb5 : 0 ≤ (z_and (z_ush (i - (z_and (z_ush i 1) 1431655765)) 2) 858993459) ∧ (z_and (z_ush (i - (z_and (z_ush i 1) 1431655765)) 2) 858993459) ≤ 858993459 := z_andC (z_ush (i - (z_and (z_ush i 1) 1431655765)) 2) 858993459 (by decide)
  have hb6 : (-2147483648) ≤ (z_ush ((z_and (i - (z_and (z_ush i 1) 1431655765)) 858993459) + (z_and (z_ush (i - (z_and (z_ush i 1) 1431655765)) 2) 858993459)) 4) ∧ (z_ush ((z_and (i - (z_and (z_ush i 1) 1431655765)) 858993459) + (z_and (z_ush (i - (z_and (z_ush i 1) 1431655765)) 2) 858993459)) 4) ≤ 2147483647 := z_ushB ((z_and (i - (z_and (z_ush i 1) 1431655765)) 858993459) + (z_and (z_ush (i - (z_and (z_ush i 1) 1431655765)) 2) 858993459)) 4
  have hb7 : 0 ≤ (z_and (((z_and (i - (z_and (z_ush i 1) 1431655765)) 858993459) + (z_and (z_ush (i - (z_and (z_ush i 1) 1431655765)) 2) 858993459)) + (z_ush ((z_and (i - (z_and (z_ush i 1) 1431655765)) 858993459) + (z_and (z_ush (i - (z_and (z_ush i 1) 1431655765)) 2) 858993459)) 4)) 252645135) ∧ (z_and (((z_and (i - (z_and (z_ush i 1) 1431655765)) 858993459) + (z_and (z_ush (i - (z_and (z_ush i 1) 1431655765)) 2) 858993459)) + (z_ush ((z_and (i - (z_and (z_ush i 1) 1431655765)) 858993459) + (z_and (z_ush (i - (z_and (z_ush i 1) 1431655765)) 2) 858993459)) 4)) 252645135) ≤ 252645135 := z_andC (((z_and (i - (z_and (z_ush i 1) 1431655765)) 858993459) + (z_and (z_ush (i - (z_and (z_ush i 1) 1431655765)) 2) 858993459)) + (z_ush ((z_and (i - (z_and (z_ush i 1) 1431655765)) 858993459) + (z_and (z_ush (i - (z_and (z_ush i 1) 1431655765)) 2) 858993459)) 4)) 252645135 (by decide)
  have hb8 : (-2147483648) ≤ (z_ush (z_and (((z_and (i - (z_and (z_ush i 1) 1431655765)) 858993459) + (z_and (z_ush (i - (z_and (z_ush i 1) 1431655765)) 2) 858993459)) + (z_ush ((z_and (i - (z_and (z_ush i 1) 1431655765)) 858993459) + (z_and (z_ush (i - (z_and (z_ush i 1) 1431655765)) 2) 858993459)) 4)) 252645135) 8) ∧ (z_ush (z_and (((z_and (i - (z_and (z_ush i 1) 1431655765)) 858993459) + (z_and (z_ush (i - (z_and (z_ush i 1) 1431655765)) 2) 858993459)) + (z_ush ((z_and (i - (z_and (z_ush i 1) 1431655765)) 858993459) + (z_and (z_ush (i - (z_and (z_ush i 1) 1431655765)) 2) 858993459)) 4)) 252645135) 8) ≤ 2147483647 := z_ushB (z_and (((z_and (i - (z_and (z_ush i 1) 1431655765)) 858993459) + (z_and (z_ush (i - (z_and (z_ush i 1) 1431655765)) 2) 858993459)) + (z_ush ((z_and (i - (z_and (z_ush i 1) 1431655765)) 858993459) + (z_and (z_ush (i - (z_and (z_ush i 1) 1431655765)) 2) 858993459)) 4)) 252645135) 8
  have hb9 : (-2147483648) ≤ (z_ush ((z_and (((z_and (i - (z_and (z_ush i 1) 1431655765)) 858993459) + (z_and (z_ush (i - (z_and (z_ush i 1) 1431655765)) 2) 858993459)) + (z_ush ((z_and (i - (z_and (z_ush i 1) 1431655765)) 858993459) + (z_and (z_ush (i - (z_and (z_ush i 1) 1431655765)) 2) 858993459)) 4)) 252645135) + (z_ush (z_and (((z_and (i - (z_and (z_ush i 1) 1431655765)) 858993459) + (z_and (z_ush (i - (z_and (z_ush i 1) 1431655765)) 2) 858993459)) + (z_ush ((z_and (i - (z_and (z_ush i 1) 1431655765)) 858993459) + (z_and (z_ush (i - (z_and (z_ush i 1) 1431655765)) 2) 858993459)) 4)) 252645135) 8)) 16) ∧ (z_ush ((z_and (((z_and (i - (z_and (z_ush i 1) 1431655765)) 858993459) + (z_and (z_ush (i - (z_and (z_ush i 1) 1431655765)) 2) 858993459)) + (z_ush ((z_and (i - (z_and (z_ush i 1) 1431655765)) 858993459) + (z_and (z_ush (i - (z_and (z_ush i 1) 1431655765)) 2) 858993459)) 4)) 252645135) + (z_ush (z_and (((z_and (i - (z_and (z_ush i 1) 1431655765)) 858993459) + (z_and (z_ush (i - (z_and (z_ush i 1) 1431655765)) 2) 858993459)) + (z_ush ((z_and (i - (z_and (z_ush i 1) 1431655765)) 858993459) + (z_and (z_ush (i - (z_and (z_ush i 1) 1431655765)) 2) 858993459)) 4)) 252645135) 8)) 16) ≤ 2147483647 := z_ushB ((z_and (((z_and (i - (z_and (z_ush i 1) 1431655765)) 858993459) + (z_and (z_ush (i - (z_and (z_ush i 1) 1431655765)) 2) 858993459)) + (z_ush ((z_and (i - (z_and (z_ush i 1) 1431655765)) 858993459) + (z_and (z_ush (i - (z_and (z_ush i 1) 1431655765)) 2) 858993459)) 4)) 252645135) + (z_ush (z_and (((z_and (i - (z_and (z_ush i 1) 1431655765)) 858993459) + (z_and (z_ush (i - (z_and (z_ush i 1) 1431655765)) 2) 858993459)) + (z_ush ((z_and (i - (z_and (z_ush i 1) 1431655765)) 858993459) + (z_and (z_ush (i - (z_and (z_ush i 1) 1431655765)) 2) 858993459)) 4)) 252645135) 8)) 16
  have hb10 : 0 ≤ (z_and (((z_and (((z_and (i - (z_and (z_ush i 1) 1431655765)) 858993459) + (z_and (z_ush (i - (z_and (z_ush i 1) 1431655765)) 2) 858993459)) + (z_ush ((z_and (i - (z_and (z_ush i 1) 1431655765)) 858993459) + (z_and (z_ush (i - (z_and (z_ush i 1) 1431655765)) 2) 858993459)) 4)) 252645135) + (z_ush (z_and (((z_and (i - (z_and (z_ush i 1) 1431655765)) 858993459) + (z_and (z_ush (i - (z_and (z_ush i 1) 1431655765)) 2) 858993459)) + (z_ush ((z_and (i - (z_and (z_ush i 1) 1431655765)) 858993459) + (z_and (z_ush (i - (z_and (z_ush i 1) 1431655765)) 2) 858993459)) 4)) 252645135) 8)) + (z_ush ((z_and (((z_and (i - (z_and (z_ush i 1) 1431655765)) 858993459) + (z_and (z_ush (i - (z_and (z_ush i 1) 1431655765)) 2) 858993459)) + (z_ush ((z_and (i - (z_and (z_ush i 1) 1431655765)) 858993459) + (z_and (z_ush (i - (z_and (z_ush i 1) 1431655765)) 2) 858993459)) 4)) 252645135) + (z_ush (z_and (((z_and (i - (z_and (z_ush i 1) 1431655765)) 858993459) + (z_and (z_ush (i - (z_and (z_ush i 1) 1431655765)) 2) 858993459)) + (z_ush ((z_and (i - (z_and (z_ush i 1) 1431655765)) 858993459) + (z_and (z_ush (i - (z_and (z_ush i 1) 1431655765)) 2) 858993459)) 4)) 252645135) 8)) 16)) 63) ∧ (z_and (((z_and (((z_and (i - (z_and (z_ush i 1) 1431655765)) 858993459) + (z_and (z_ush (i - (z_and (z_ush i 1) 1431655765)) 2) 858993459)) + (z_ush ((z_and (i - (z_and (z_ush i 1) 1431655765)) 858993459) + (z_and (z_ush (i - (z_and (z_ush i 1) 1431655765)) 2) 858993459)) 4)) 252645135) + (z_ush (z_and (((z_and (i - (z_and (z_ush i 1) 1431655765)) 858993459) + (z_and (z_ush (i - (z_and (z_ush i 1) 1431655765)) 2) 858993459)) + (z_ush ((z_and (i - (z_and (z_ush i 1) 1431655765)) 858993459) + (z_and (z_ush (i - (z_and (z_ush i 1) 1431655765)) 2) 858993459)) 4)) 252645135) 8)) + (z_ush ((z_and (((z_and (i - (z_and (z_ush i 1) 1431655765)) 858993459) + (z_and (z_ush (i - (z_and (z_ush i 1) 1431655765)) 2) 858993459)) + (z_ush ((z_and (i - (z_and (z_ush i 1) 1431655765)) 858993459) + (z_and (z_ush (i - (z_and (z_ush i 1) 1431655765)) 2) 858993459)) 4)) 252645135) + (z_ush (z_and (((z_and (i - (z_and (z_ush i 1) 1431655765)) 858993459) + (z_and (z_ush (i - (z_and (z_ush i 1) 1431655765)) 2) 858993459)) + (z_ush ((z_and (i - (z_and (z_ush i 1) 1431655765)) 858993459) + (z_and (z_ush (i - (z_and (z_ush i 1) 1431655765)) 2) 858993459)) 4)) 252645135) 8)) 16)) 63) ≤ 63 := z_andC (((z_and (((z_and (i - (z_and (z_ush i 1) 1431655765)) 858993459) + (z_and (z_ush (i - (z_and (z_ush i 1) 1431655765)) 2) 858993459)) + (z_ush ((z_and (i - (z_and (z_ush i 1) 1431655765)) 858993459) + (z_and (z_ush (i - (z_and (z_ush i 1) 1431655765)) 2) 858993459)) 4)) 252645135) + (z_ush (z_and (((z_and (i - (z_and (z_ush i 1) 1431655765)) 858993459) + (z_and (z_ush (i - (z_and (z_ush i 1) 1431655765)) 2) 858993459)) + (z_ush ((z_and (i - (z_and (z_ush i 1) 1431655765)) 858993459) + (z_and (z_ush (i - (z_and (z_ush i 1) 1431655765)) 2) 858993459)) 4)) 252645135) 8)) + (z_ush ((z_and (((z_and (i - (z_and (z_ush i 1) 1431655765)) 858993459) + (z_and (z_ush (i - (z_and (z_ush i 1) 1431655765)) 2) 858993459)) + (z_ush ((z_and (i - (z_and (z_ush i 1) 1431655765)) 858993459) + (z_and (z_ush (i - (z_and (z_ush i 1) 1431655765)) 2) 858993459)) 4)) 252645135) + (z_ush (z_and (((z_and (i - (z_and (z_ush i 1) 1431655765)) 858993459) + (z_and (z_ush (i - (z_and (z_ush i 1) 1431655765)) 2) 858993459)) + (z_ush ((z_and (i - (z_and (z_ush i 1) 1431655765)) 858993459) + (z_and (z_ush (i - (z_and (z_ush i 1) 1431655765)) 2) 858993459)) 4)) 252645135) 8)) 16)) 63 (by decide)
  have he0 : wr (z_and (((z_and (((z_and (i - (z_and (z_ush i 1) 1431655765)) 858993459) + (z_and (z_ush (i - (z_and (z_ush i 1) 1431655765)) 2) 858993459)) + (z_ush ((z_and (i - (z_and (z_ush i 1) 1431655765)) 858993459) + (z_and (z_ush (i - (z_and (z_ush i 1) 1431655765)) 2) 858993459)) 4)) 252645135) + (z_ush (z_and (((z_and (i - (z_and (z_ush i 1) 1431655765)) 858993459) + (z_and (z_ush (i - (z_and (z_ush i 1) 1431655765)) 2) 858993459)) + (z_ush ((z_and (i - (z_and (z_ush i 1) 1431655765)) 858993459) + (z_and (z_ush (i - (z_and (z_ush i 1) 1431655765)) 2) 858993459)) 4)) 252645135) 8)) + (z_ush ((z_and (((z_and (i - (z_and (z_ush i 1) 1431655765)) 858993459) + (z_and (z_ush (i - (z_and (z_ush i 1) 1431655765)) 2) 858993459)) + (z_ush ((z_and (i - (z_and (z_ush i 1) 1431655765)) 858993459) + (z_and (z_ush (i - (z_and (z_ush i 1) 1431655765)) 2) 858993459)) 4)) 252645135) + (z_ush (z_and (((z_and (i - (z_and (z_ush i 1) 1431655765)) 858993459) + (z_and (z_ush (i - (z_and (z_ush i 1) 1431655765)) 2) 858993459)) + (z_ush ((z_and (i - (z_and (z_ush i 1) 1431655765)) 858993459) + (z_and (z_ush (i - (z_and (z_ush i 1) 1431655765)) 2) 858993459)) 4)) 252645135) 8)) 16)) 63) = (z_and (((z_and (((z_and (i - (z_and (z_ush i 1) 1431655765)) 858993459) + (z_and (z_ush (i - (z_and (z_ush i 1) 1431655765)) 2) 858993459)) + (z_ush ((z_and (i - (z_and (z_ush i 1) 1431655765)) 858993459) + (z_and (z_ush (i - (z_and (z_ush i 1) 1431655765)) 2) 858993459)) 4)) 252645135) + (z_ush (z_and (((z_and (i - (z_and (z_ush i 1) 1431655765)) 858993459) + (z_and (z_ush (i - (z_and (z_ush i 1) 1431655765)) 2) 858993459)) + (z_ush ((z_and (i - (z_and (z_ush i 1) 1431655765)) 858993459) + (z_and (z_ush (i - (z_and (z_ush i 1) 1431655765)) 2) 858993459)) 4)) 252645135) 8)) + (z_ush ((z_and (((z_and (i - (z_and (z_ush i 1) 1431655765)) 858993459) + (z_and (z_ush (i - (z_and (z_ush i 1) 1431655765)) 2) 858993459)) + (z_ush ((z_and (i - (z_and (z_ush i 1) 1431655765)) 858993459) + (z_and (z_ush (i - (z_and (z_ush i 1) 1431655765)) 2) 858993459)) 4)) 252645135) + (z_ush (z_and (((z_and (i - (z_and (z_ush i 1) 1431655765)) 858993459) + (z_and (z_ush (i - (z_and (z_ush i 1) 1431655765)) 2) 858993459)) + (z_ush ((z_and (i - (z_and (z_ush i 1) 1431655765)) 858993459) + (z_and (z_ush (i - (z_and (z_ush i 1) 1431655765)) 2) 858993459)) 4)) 252645135) 8)) 16)) 63) := wr_id (by omega) (by omega)
  have key := @zb293_0r T hT D κ m i
  simp only [he0, Int.toNat_natCast] at key
  exact key
    k1
theorem zb142_0r (hT : zRules T) {D : Nat} {κ : Option zA → zM → Prop} {m : zM} 
    (o1 : T (D + 2) 142 (6, [(0, zr 1), (1, zi 0), (2, zi 0), (3, zi 0)], [], m) κ) :
    T (D + 2) 142 (0, [(0, zr 1)], [], m) κ :=
  hT.1 [(6, [0, 1, 2, 3])] 6 (D + 2) 142 _ κ (o1)
theorem zb142_0 (hT : zRules T) {D : Nat} {κ : Option zA → zM → Prop} {m : zM}  (hB : zB m) 
    (k1 : T (D + 2) 142 (6, [(0, zr 1), (1, zi 0), (2, zi 0), (3, zi 0)], [], m) κ) :
    T (D + 2) 142 (0, [(0, zr 1)], [], m) κ := by
  exact zb142_0r hT
    k1
theorem zb142_6r (hT : zRules T) {D : Nat} {κ : Option zA → zM → Prop} {m : zM} {w : Nat} {o : Nat} {p : Nat} {lo : zL} (hlo : z_keep [0, 1, 2, 3] lo = [(0, zr 1), (1, zi (w : Int)), (2, zi (o : Int)), (3, zi (p : Int))]) 
    (o1 : ¬ wr (p : Int) < wr (m 17 0) → T (D + 1) 293 (0, [(0, zi (o : Int))], [], m) (fun r m1 => T (D + 2) 142 (67, [(0, zr 1), (1, zi (w : Int)), (2, zi (o : Int)), (3, zi (p : Int))], r.toList ++ [zr 72], m1) κ))
    (o2 : wr (p : Int) < wr (m 17 0) → (0 ≤ wr (p : Int) ∧ wr (p : Int) < 6))
    (o3 : wr (p : Int) < wr (m 17 0) → ¬ wr (m 20 ((wr (p : Int)).toNat)) = (-1) → (0 ≤ wr (p : Int) ∧ wr (p : Int) < 6))
    (o4 : wr (p : Int) < wr (m 17 0) → ¬ wr (m 20 ((wr (p : Int)).toNat)) = (-1) → T (D + 2) 142 (6, [(0, zr 1), (1, zi (z_or (w : Int) (z_shl 1 (m 20 ((wr (p : Int)).toNat))))), (2, zi (o : Int)), (3, zi ((p : Int) + 1))], [], m) κ)
    (o5 : wr (p : Int) < wr (m 17 0) → wr (m 20 ((wr (p : Int)).toNat)) = (-1) → T (D + 2) 142 (6, [(0, zr 1), (1, zi (w : Int)), (2, zi (z_or (o : Int) (z_shl 1 (p : Int)))), (3, zi ((p : Int) + 1))], [], m) κ) :
    T (D + 2) 142 (6, lo, [], m) κ :=
  zkeep hT hlo (hT.1 [(6, [0, 1, 2, 3])] 6 (D + 2) 142 _ κ (And.intro (fun a1 => (hT.1 [(6, [0, 1, 2, 3])] 6 (D + 2) 142 (60, [(0, zr 1), (1, zi (w : Int)), (2, zi (o : Int)), (3, zi (p : Int))], [zr 1], m) _ (o1 a1))) (fun a2 => (hT.1 [(6, [0, 1, 2, 3])] 6 (D + 2) 142 (18, [(0, zr 1), (1, zi (w : Int)), (2, zi (o : Int)), (3, zi (p : Int))], [zr 1], m) _ (And.intro (o2 (Classical.byContradiction a2)) (And.intro (fun a3 => (hT.1 [(6, [0, 1, 2, 3])] 6 (D + 2) 142 (39, [(0, zr 1), (1, zi (w : Int)), (2, zi (o : Int)), (3, zi (p : Int))], [], m) _ (hT.1 [(6, [0, 1, 2, 3])] 6 (D + 2) 142 (49, [(0, zr 1), (1, zi (w : Int)), (2, zi (o : Int)), (3, zi (p : Int))], [zi (p : Int), zr 20, zi 1, zi (w : Int)], m) _ (And.intro (o3 (Classical.byContradiction a2) a3) (o4 (Classical.byContradiction a2) a3))))) (fun a4 => (hT.1 [(6, [0, 1, 2, 3])] 6 (D + 2) 142 (30, [(0, zr 1), (1, zi (w : Int)), (2, zi (o : Int)), (3, zi (p : Int))], [], m) _ (hT.1 [(6, [0, 1, 2, 3])] 6 (D + 2) 142 (36, [(0, zr 1), (1, zi (w : Int)), (2, zi (z_or (o : Int) (z_shl 1 (p : Int)))), (3, zi (p : Int))], [], m) _ (o5 (Classical.byContradiction a2) (Classical.byContradiction a4)))))))))))
theorem zb142_6 (hT : zRules T) {D : Nat} {κ : Option zA → zM → Prop} {m : zM} {w : Nat} {o : Nat} {p : Nat} {lo : zL} (hlo : z_keep [0, 1, 2, 3] lo = [(0, zr 1), (1, zi (w : Int)), (2, zi (o : Int)), (3, zi (p : Int))])  (hB : zB m) (h_w : w ≤ 255) (h_o : o ≤ 63) (h_p : p ≤ 6) 
    (k1 : ¬ (p : Int) < (m 17 0) → T (D + 1) 293 (0, [(0, zi (o : Int))], [], m) (fun r m1 => T (D + 2) 142 (67, [(0, zr 1), (1, zi (w : Int)), (2, zi (o : Int)), (3, zi (p : Int))], r.toList ++ [zr 72], m1) κ))
    (k2 : (p : Int) < (m 17 0) → ¬ (m 20 p) = (-1) → T (D + 2) 142 (6, [(0, zr 1), (1, zi (z_or (w : Int) (z_shl 1 (m 20 p)))), (2, zi (o : Int)), (3, zi ((p : Int) + 1))], [], m) κ)
    (k3 : (p : Int) < (m 17 0) → (m 20 p) = (-1) → T (D + 2) 142 (6, [(0, zr 1), (1, zi (w : Int)), (2, zi (z_or (o : Int) (z_shl 1 (p : Int)))), (3, zi ((p : Int) + 1))], [], m) κ) :
    T (D + 2) 142 (6, lo, [], m) κ := by
  have hb3 : 0 ≤ (m 17 0) ∧ (m 17 0) ≤ 6 := hB 17 0
  have hb4 : (-1) ≤ (m 20 p) ∧ (m 20 p) ≤ 7 := hB 20 p
  have hb5 : (-2147483648) ≤ (z_shl 1 (p : Int)) ∧ (z_shl 1 (p : Int)) ≤ 2147483647 := z_shlB 1 (p : Int)
  have hb6 : (-2147483648) ≤ (z_or (o : Int) (z_shl 1 (p : Int))) ∧ (z_or (o : Int) (z_shl 1 (p : Int))) ≤ 2147483647 := z_orB (o : Int) (z_shl 1 (p : Int))
  have hb7 : (-2147483648) ≤ (z_shl 1 (m 20 p)) ∧ (z_shl 1 (m 20 p)) ≤ 2147483647 := z_shlB 1 (m 20 p)
  have hb8 : (-2147483648) ≤ (z_or (w : Int) (z_shl 1 (m 20 p))) ∧ (z_or (w : Int) (z_shl 1 (m 20 p))) ≤ 2147483647 := z_orB (w : Int) (z_shl 1 (m 20 p))
  have he0 : wr (p : Int) = (p : Int) := wr_id (by omega) (by omega)
  have he1 : wr (m 17 0) = (m 17 0) := wr_id (by omega) (by omega)
  have he2 : (p : Int).toNat = p := by omega
  have he3 : wr (m 20 p) = (m 20 p) := wr_id (by omega) (by omega)
  have key := @zb142_6r T hT D κ m w o p lo hlo
  simp only [he0, he1, he2, he3, Int.toNat_natCast] at key
  exact key
    k1
    (fun x0 => by refine ⟨?_, ?_⟩ <;> omega)
    (fun x0 x1 => by refine ⟨?_, ?_⟩ <;> omega)
    k2
    k3
theorem zb142_67r (hT : zRules T) {D : Nat} {κ : Option zA → zM → Prop} {m : zM} {w : Nat} {o : Nat} {v : Int} {lo : zL} (hlo : z_keep [0, 1, 2] lo = [(0, zr 1), (1, zi (w : Int)), (2, zi (o : Int))]) 
    (o1 : κ (some (zi (wr (z_and ((z_shl 1 (m 17 1)) - 1) (z_xor (w : Int) (-1)))))) (zu (zu (zu m 72 1 2) 73 0 v) 73 1 (o : Int))) :
    T (D + 2) 142 (67, lo, [zi v, zr 72], m) κ :=
  zkeep hT hlo (hT.1 [(6, [0, 1, 2, 3])] 6 (D + 2) 142 _ κ (hT.1 [] 6 (D + 1) 46 _ _ (And.intro trivial (hT.1 [] 6 (D + 1) 46 (10, [(0, zr 72), (1, zi v), (2, zi (o : Int))], [zi 0, zr 73], (zu m 72 1 2)) _ (And.intro (And.intro (z_ixL rfl) trivial) (hT.1 [] 6 (D + 1) 46 (18, [(0, zr 72), (1, zi v), (2, zi (o : Int))], [zi (o : Int), zi 1, zr 73], (zu (zu m 72 1 2) 73 0 v)) _ (And.intro (And.intro (z_ixL rfl) trivial) (hT.1 [(6, [0, 1, 2, 3])] 6 (D + 2) 142 _ _ (hT.1 [(6, [0, 1, 2, 3])] 6 (D + 2) 142 (81, [(0, zr 1), (1, zi (w : Int)), (2, zi (o : Int))], [zi 1, zi (z_shl 1 (m 17 1))], (zu (zu (zu m 72 1 2) 73 0 v) 73 1 (o : Int))) _ (o1))))))))))
theorem zb142_67 (hT : zRules T) {D : Nat} {κ : Option zA → zM → Prop} {m : zM} {w : Nat} {o : Nat} {v : Int} {lo : zL} (hlo : z_keep [0, 1, 2] lo = [(0, zr 1), (1, zi (w : Int)), (2, zi (o : Int))])  (hB : zB m) (h_w : w ≤ 255) (h_o : o ≤ 63) (h_v : (-2147483648) ≤ v ∧ v ≤ 2147483647) 
    (k1 : zB (zu (zu (zu m 72 1 2) 73 0 v) 73 1 (o : Int)) → κ (some (zi (z_and ((z_shl 1 (m 17 1)) - 1) (z_xor (w : Int) (-1))))) (zu (zu (zu m 72 1 2) 73 0 v) 73 1 (o : Int))) :
    T (D + 2) 142 (67, lo, [zi v, zr 72], m) κ := by
  have hb3 : 0 ≤ (m 17 1) ∧ (m 17 1) ≤ 8 := hB 17 1
  have hb4 : (-2147483648) ≤ (z_shl 1 (m 17 1)) ∧ (z_shl 1 (m 17 1)) ≤ 2147483647 := z_shlB 1 (m 17 1)
  have hb5 : (-2147483648) ≤ (z_xor (w : Int) (-1)) ∧ (z_xor (w : Int) (-1)) ≤ 2147483647 := z_xorB (w : Int) (-1)
  have hb6 : (-2147483648) ≤ (z_and ((z_shl 1 (m 17 1)) - 1) (z_xor (w : Int) (-1))) ∧ (z_and ((z_shl 1 (m 17 1)) - 1) (z_xor (w : Int) (-1))) ≤ 2147483647 := z_andB ((z_shl 1 (m 17 1)) - 1) (z_xor (w : Int) (-1))
  have he0 : wr (z_and ((z_shl 1 (m 17 1)) - 1) (z_xor (w : Int) (-1))) = (z_and ((z_shl 1 (m 17 1)) - 1) (z_xor (w : Int) (-1))) := wr_id (by omega) (by omega)
  have key := @zb142_67r T hT D κ m w o v lo hlo
  simp only [he0, Int.toNat_natCast] at key
  exact key
    (k1  (zB_u (zB_u (zB_u hB (show 0 ≤ 2 ∧ 2 ≤ 26 from ⟨by omega, by omega⟩)) trivial) trivial))
theorem zb260_0r (hT : zRules T) {D : Nat} {κ : Option zA → zM → Prop} {m : zM} 
    (o1 : T (D + 3) 260 (11, [(0, zr 74), (1, zi 0), (2, zi 0), (3, zi 0)], [], (zu m 74 12 0)) κ) :
    T (D + 3) 260 (0, [(0, zr 74)], [], m) κ :=
  hT.1 [(11, [0, 1, 2, 3]), (50, [0, 1, 2, 3])] 6 (D + 3) 260 _ κ (And.intro trivial (hT.1 [(11, [0, 1, 2, 3]), (50, [0, 1, 2, 3])] 6 (D + 3) 260 (8, [(0, zr 74), (1, zi 0)], [zi 0], (zu m 74 12 0)) _ (o1)))
theorem zb260_0 (hT : zRules T) {D : Nat} {κ : Option zA → zM → Prop} {m : zM}  (hB : zB m) 
    (k1 : zB (zu m 74 12 0) → T (D + 3) 260 (11, [(0, zr 74), (1, zi 0), (2, zi 0), (3, zi 0)], [], (zu m 74 12 0)) κ) :
    T (D + 3) 260 (0, [(0, zr 74)], [], m) κ := by
  exact zb260_0r hT
    (k1  (zB_u hB trivial))
theorem zb260_11r (hT : zRules T) {D : Nat} {κ : Option zA → zM → Prop} {m : zM} {b : Nat} {o : Nat} {c : Nat} {lo : zL} (hlo : z_keep [0, 1, 2, 3] lo = [(0, zr 74), (1, zi (b : Int)), (2, zi (o : Int)), (3, zi (c : Int))]) 
    (o1 : ¬ wr (c : Int) < wr (m 74 6) → T (D + 3) 260 (50, [(0, zr 74), (1, zi (b : Int)), (2, zi (o : Int)), (3, zi 0)], [], m) κ)
    (o2 : wr (c : Int) < wr (m 74 6) → T (D + 2) 217 (0, [(0, zr 74), (1, zr 75), (2, zi (c : Int))], [], m) (fun r m1 => T (D + 3) 260 (29, [(0, zr 74), (1, zi (b : Int)), (2, zi (o : Int)), (3, zi (c : Int))], r.toList ++ [zi (b : Int)], m1) κ)) :
    T (D + 3) 260 (11, lo, [], m) κ :=
  zkeep hT hlo (hT.1 [(11, [0, 1, 2, 3]), (50, [0, 1, 2, 3])] 6 (D + 3) 260 _ κ (And.intro (fun a1 => (o1 a1)) (fun a2 => (hT.1 [(11, [0, 1, 2, 3]), (50, [0, 1, 2, 3])] 6 (D + 3) 260 (21, [(0, zr 74), (1, zi (b : Int)), (2, zi (o : Int)), (3, zi (c : Int))], [zr 74, zi (b : Int)], m) _ (o2 (Classical.byContradiction a2))))))
theorem zb260_11 (hT : zRules T) {D : Nat} {κ : Option zA → zM → Prop} {m : zM} {b : Nat} {o : Nat} {c : Nat} {lo : zL} (hlo : z_keep [0, 1, 2, 3] lo = [(0, zr 74), (1, zi (b : Int)), (2, zi (o : Int)), (3, zi (c : Int))])  (hB : zB m) (h_b : b ≤ 255) (h_o : o ≤ 63) (h_c : c ≤ 8) 
    (k1 : ¬ (c : Int) < (m 74 6) → T (D + 3) 260 (50, [(0, zr 74), (1, zi (b : Int)), (2, zi (o : Int)), (3, zi 0)], [], m) κ)
    (k2 : (c : Int) < (m 74 6) → T (D + 2) 217 (0, [(0, zr 74), (1, zr 75), (2, zi (c : Int))], [], m) (fun r m1 => T (D + 3) 260 (29, [(0, zr 74), (1, zi (b : Int)), (2, zi (o : Int)), (3, zi (c : Int))], r.toList ++ [zi (b : Int)], m1) κ)) :
    T (D + 3) 260 (11, lo, [], m) κ := by
  have hb3 : 0 ≤ (m 74 6) ∧ (m 74 6) ≤ 8 := hB 74 6
  have he0 : wr (c : Int) = (c : Int) := wr_id (by omega) (by omega)
  have he1 : wr (m 74 6) = (m 74 6) := wr_id (by omega) (by omega)
  have key := @zb260_11r T hT D κ m b o c lo hlo
  simp only [he0, he1, Int.toNat_natCast] at key
  exact key
    k1
    k2
theorem zb260_29r (hT : zRules T) {D : Nat} {κ : Option zA → zM → Prop} {m : zM} {b : Nat} {o : Nat} {c : Nat} {v : Int} {lo : zL} (hlo : z_keep [0, 2, 3] lo = [(0, zr 74), (2, zi (o : Int)), (3, zi (c : Int))]) 
    (o1 : ¬ wr v = (-1) → T (D + 3) 260 (11, [(0, zr 74), (1, zi (z_or (b : Int) 0)), (2, zi (o : Int)), (3, zi ((c : Int) + 1))], [], m) κ)
    (o2 : wr v = (-1) → T (D + 3) 260 (11, [(0, zr 74), (1, zi (z_or (b : Int) (z_shl 1 (c : Int)))), (2, zi (o : Int)), (3, zi ((c : Int) + 1))], [], m) κ) :
    T (D + 3) 260 (29, lo, [zi v, zi (b : Int)], m) κ :=
  zkeep hT hlo (hT.1 [(11, [0, 1, 2, 3]), (50, [0, 1, 2, 3])] 6 (D + 3) 260 _ κ (And.intro (fun a1 => (hT.1 [(11, [0, 1, 2, 3]), (50, [0, 1, 2, 3])] 6 (D + 3) 260 (45, [(0, zr 74), (1, zi (z_or (b : Int) 0)), (2, zi (o : Int)), (3, zi ((c : Int) + 1))], [], m) _ (o1 a1))) (fun a2 => (hT.1 [(11, [0, 1, 2, 3]), (50, [0, 1, 2, 3])] 6 (D + 3) 260 (40, [(0, zr 74), (2, zi (o : Int)), (3, zi (c : Int))], [zi (z_shl 1 (c : Int)), zi (b : Int)], m) _ (o2 (Classical.byContradiction a2))))))
theorem zb260_29 (hT : zRules T) {D : Nat} {κ : Option zA → zM → Prop} {m : zM} {b : Nat} {o : Nat} {c : Nat} {v : Int} {lo : zL} (hlo : z_keep [0, 2, 3] lo = [(0, zr 74), (2, zi (o : Int)), (3, zi (c : Int))])  (hB : zB m) (h_b : b ≤ 255) (h_o : o ≤ 63) (h_c : c ≤ 7) (h_v : (-1) ≤ v ∧ v ≤ 5) 
    (k1 : ¬ v = (-1) → T (D + 3) 260 (11, [(0, zr 74), (1, zi (z_or (b : Int) 0)), (2, zi (o : Int)), (3, zi ((c : Int) + 1))], [], m) κ)
    (k2 : v = (-1) → T (D + 3) 260 (11, [(0, zr 74), (1, zi (z_or (b : Int) (z_shl 1 (c : Int)))), (2, zi (o : Int)), (3, zi ((c : Int) + 1))], [], m) κ) :
    T (D + 3) 260 (29, lo, [zi v, zi (b : Int)], m) κ := by
  have hb4 : (-2147483648) ≤ (z_shl 1 (c : Int)) ∧ (z_shl 1 (c : Int)) ≤ 2147483647 := z_shlB 1 (c : Int)
  have hb5 : (-2147483648) ≤ (z_or (b : Int) (z_shl 1 (c : Int))) ∧ (z_or (b : Int) (z_shl 1 (c : Int))) ≤ 2147483647 := z_orB (b : Int) (z_shl 1 (c : Int))
  have hb6 : (-2147483648) ≤ (z_or (b : Int) 0) ∧ (z_or (b : Int) 0) ≤ 2147483647 := z_orB (b : Int) 0
  have he0 : wr v = v := wr_id (by omega) (by omega)
  have key := @zb260_29r T hT D κ m b o c v lo hlo
  simp only [he0, Int.toNat_natCast] at key
  exact key
    k1
    k2
theorem zb260_50r (hT : zRules T) {D : Nat} {κ : Option zA → zM → Prop} {m : zM} {b : Nat} {o : Nat} {p : Nat} {lo : zL} (hlo : z_keep [0, 1, 2, 3] lo = [(0, zr 74), (1, zi (b : Int)), (2, zi (o : Int)), (3, zi (p : Int))]) 
    (o1 : ¬ wr (p : Int) < wr (m 74 4) → T (D + 2) 293 (0, [(0, zi (o : Int))], [], (zu m 74 11 0)) (fun r m1 => T (D + 3) 260 (97, [(0, zr 74), (1, zi (b : Int)), (2, zi (o : Int)), (3, zi (p : Int))], r.toList ++ [zr 74], m1) κ))
    (o2 : wr (p : Int) < wr (m 74 4) → (0 ≤ wr (6 + (p : Int)) ∧ wr (6 + (p : Int)) < 59))
    (o3 : wr (p : Int) < wr (m 74 4) → ¬ wr (m 75 ((wr (6 + (p : Int))).toNat)) = (-1) → T (D + 3) 260 (50, [(0, zr 74), (1, zi (b : Int)), (2, zi (z_or (o : Int) 0)), (3, zi ((p : Int) + 1))], [], m) κ)
    (o4 : wr (p : Int) < wr (m 74 4) → wr (m 75 ((wr (6 + (p : Int))).toNat)) = (-1) → T (D + 3) 260 (50, [(0, zr 74), (1, zi (b : Int)), (2, zi (z_or (o : Int) (z_shl 1 (p : Int)))), (3, zi ((p : Int) + 1))], [], m) κ) :
    T (D + 3) 260 (50, lo, [], m) κ :=
  zkeep hT hlo (hT.1 [(11, [0, 1, 2, 3]), (50, [0, 1, 2, 3])] 6 (D + 3) 260 _ κ (And.intro (fun a1 => (hT.1 [(11, [0, 1, 2, 3]), (50, [0, 1, 2, 3])] 6 (D + 3) 260 (89, [(0, zr 74), (1, zi (b : Int)), (2, zi (o : Int)), (3, zi (p : Int))], [zi 0, zr 74], m) _ (And.intro trivial (o1 a1)))) (fun a2 => (hT.1 [(11, [0, 1, 2, 3]), (50, [0, 1, 2, 3])] 6 (D + 3) 260 (60, [(0, zr 74), (1, zi (b : Int)), (2, zi (o : Int)), (3, zi (p : Int))], [zr 74, zi (o : Int)], m) _ (And.intro (o2 (Classical.byContradiction a2)) (hT.1 [(11, [0, 1, 2, 3]), (50, [0, 1, 2, 3])] 6 (D + 3) 260 (69, [(0, zr 74), (1, zi (b : Int)), (2, zi (o : Int)), (3, zi (p : Int))], [zi (-1), zi (m 75 ((wr (6 + (p : Int))).toNat)), zi (o : Int)], m) _ (And.intro (fun a3 => (o3 (Classical.byContradiction a2) a3)) (fun a4 => (hT.1 [(11, [0, 1, 2, 3]), (50, [0, 1, 2, 3])] 6 (D + 3) 260 (80, [(0, zr 74), (1, zi (b : Int)), (2, zi (o : Int)), (3, zi (p : Int))], [zi (z_or (o : Int) (z_shl 1 (p : Int)))], m) _ (o4 (Classical.byContradiction a2) (Classical.byContradiction a4)))))))))))
theorem zb260_50 (hT : zRules T) {D : Nat} {κ : Option zA → zM → Prop} {m : zM} {b : Nat} {o : Nat} {p : Nat} {lo : zL} (hlo : z_keep [0, 1, 2, 3] lo = [(0, zr 74), (1, zi (b : Int)), (2, zi (o : Int)), (3, zi (p : Int))])  (hB : zB m) (h_b : b ≤ 255) (h_o : o ≤ 63) (h_p : p ≤ 6) 
    (k1 : ¬ (p : Int) < (m 74 4) → zB (zu m 74 11 0) → T (D + 2) 293 (0, [(0, zi (o : Int))], [], (zu m 74 11 0)) (fun r m1 => T (D + 3) 260 (97, [(0, zr 74), (1, zi (b : Int)), (2, zi (o : Int)), (3, zi (p : Int))], r.toList ++ [zr 74], m1) κ))
    (k2 : (p : Int) < (m 74 4) → ¬ (m 75 (p + 6)) = (-1) → T (D + 3) 260 (50, [(0, zr 74), (1, zi (b : Int)), (2, zi (z_or (o : Int) 0)), (3, zi ((p : Int) + 1))], [], m) κ)
    (k3 : (p : Int) < (m 74 4) → (m 75 (p + 6)) = (-1) → T (D + 3) 260 (50, [(0, zr 74), (1, zi (b : Int)), (2, zi (z_or (o : Int) (z_shl 1 (p : Int)))), (3, zi ((p : Int) + 1))], [], m) κ) :
    T (D + 3) 260 (50, lo, [], m) κ := by
  have hb3 : 0 ≤ (m 74 4) ∧ (m 74 4) ≤ 6 := hB 74 4
  have hb4 : (-1) ≤ (m 75 (p + 6)) ∧ (m 75 (p + 6)) ≤ 99 := zSg hB 75 6 20 (-1) 99 rfl (p + 6) (by omega) (by omega)
  have hb5 : (-2147483648) ≤ (z_shl 1 (p : Int)) ∧ (z_shl 1 (p : Int)) ≤ 2147483647 := z_shlB 1 (p : Int)
  have hb6 : (-2147483648) ≤ (z_or (o : Int) (z_shl 1 (p : Int))) ∧ (z_or (o : Int) (z_shl 1 (p : Int))) ≤ 2147483647 := z_orB (o : Int) (z_shl 1 (p : Int))
  have hb7 : (-2147483648) ≤ (z_or (o : Int) 0) ∧ (z_or (o : Int) 0) ≤ 2147483647 := z_orB (o : Int) 0
  have he0 : wr (p : Int) = (p : Int) := wr_id (by omega) (by omega)
  have he1 : wr (m 74 4) = (m 74 4) := wr_id (by omega) (by omega)
  have he2 : wr (6 + (p : Int)) = (6 + (p : Int)) := wr_id (by omega) (by omega)
  have he3 : (6 + (p : Int)).toNat = p + 6 := by omega
  have he4 : wr (m 75 (p + 6)) = (m 75 (p + 6)) := wr_id (by omega) (by omega)
  have key := @zb260_50r T hT D κ m b o p lo hlo
  simp only [he0, he1, he2, he3, he4, Int.toNat_natCast] at key
  exact key
    (fun x0 => k1 x0 (zB_u hB (show 0 ≤ 0 ∧ 0 ≤ 32 from ⟨by omega, by omega⟩)))
    (fun x0 => by refine ⟨?_, ?_⟩ <;> omega)
    k2
    k3
theorem zb260_97r (hT : zRules T) {D : Nat} {κ : Option zA → zM → Prop} {m : zM} {b : Nat} {o : Nat} {v : Int} {lo : zL} (hlo : z_keep [0, 1, 2] lo = [(0, zr 74), (1, zi (b : Int)), (2, zi (o : Int))]) 
    (o1 : (0 ≤ wr (m 74 11) ∧ wr (m 74 11) < 32))
    (o2 : (0 ≤ wr ((m 74 11) + 1) ∧ wr ((m 74 11) + 1) < 32))
    (o3 : κ (some (zi (wr (b : Int)))) (zu (zu (zu (zu m 81 ((wr (m 74 11)).toNat) v) 74 11 ((m 74 11) + 1)) 81 ((wr ((m 74 11) + 1)).toNat) (o : Int)) 74 11 (((m 74 11) + 1) + 1))) :
    T (D + 3) 260 (97, lo, [zi v, zr 74], m) κ :=
  zkeep hT hlo (hT.1 [(11, [0, 1, 2, 3]), (50, [0, 1, 2, 3])] 6 (D + 3) 260 _ κ (hT.1 [] 6 (D + 2) 189 _ _ (And.intro (And.intro (o1) trivial) (hT.1 [] 6 (D + 2) 189 (10, [(0, zr 74), (1, zi v)], [], (zu m 81 ((wr (m 74 11)).toNat) v)) _ (And.intro trivial (hT.1 [] 6 (D + 2) 189 (20, [(0, zr 74), (1, zi v)], [], (zu (zu m 81 ((wr (m 74 11)).toNat) v) 74 11 ((m 74 11) + 1))) _ (hT.1 [(11, [0, 1, 2, 3]), (50, [0, 1, 2, 3])] 6 (D + 3) 260 _ _ (hT.1 [] 6 (D + 2) 189 _ _ (And.intro (And.intro (o2) trivial) (hT.1 [] 6 (D + 2) 189 (10, [(0, zr 74), (1, zi (o : Int))], [], (zu (zu (zu m 81 ((wr (m 74 11)).toNat) v) 74 11 ((m 74 11) + 1)) 81 ((wr ((m 74 11) + 1)).toNat) (o : Int))) _ (And.intro trivial (hT.1 [] 6 (D + 2) 189 (20, [(0, zr 74), (1, zi (o : Int))], [], (zu (zu (zu (zu m 81 ((wr (m 74 11)).toNat) v) 74 11 ((m 74 11) + 1)) 81 ((wr ((m 74 11) + 1)).toNat) (o : Int)) 74 11 (((m 74 11) + 1) + 1))) _ (hT.1 [(11, [0, 1, 2, 3]), (50, [0, 1, 2, 3])] 6 (D + 3) 260 _ _ (o3))))))))))))))
theorem zb260_97 (hT : zRules T) {D : Nat} {κ : Option zA → zM → Prop} {m : zM} {b : Nat} {o : Nat} {v : Int} {lo : zL} (hlo : z_keep [0, 1, 2] lo = [(0, zr 74), (1, zi (b : Int)), (2, zi (o : Int))])  (hB : zB m) (h_b : b ≤ 255) (h_o : o ≤ 63) (h_v : (-2147483648) ≤ v ∧ v ≤ 2147483647) (hf0 : 0 ≤ m 74 11 ∧ m 74 11 ≤ 0) 
    (k1 : zB (zu (zu (zu (zu m 81 ((m 74 11).toNat) v) 74 11 ((m 74 11) + 1)) 81 (((m 74 11) + 1).toNat) (o : Int)) 74 11 (((m 74 11) + 1) + 1)) → κ (some (zi (b : Int))) (zu (zu (zu (zu m 81 ((m 74 11).toNat) v) 74 11 ((m 74 11) + 1)) 81 (((m 74 11) + 1).toNat) (o : Int)) 74 11 (((m 74 11) + 1) + 1))) :
    T (D + 3) 260 (97, lo, [zi v, zr 74], m) κ := by
  have he0 : wr (m 74 11) = (m 74 11) := wr_id (by omega) (by omega)
  have he1 : wr ((m 74 11) + 1) = ((m 74 11) + 1) := wr_id (by omega) (by omega)
  have he2 : wr (b : Int) = (b : Int) := wr_id (by omega) (by omega)
  have key := @zb260_97r T hT D κ m b o v lo hlo
  simp only [he0, he1, he2, Int.toNat_natCast] at key
  exact key
    (by refine ⟨?_, ?_⟩ <;> omega)
    (by refine ⟨?_, ?_⟩ <;> omega)
    (k1  (zB_u (zB_u (zB_u (zB_u hB trivial) (show 0 ≤ ((m 74 11) + 1) ∧ ((m 74 11) + 1) ≤ 32 from ⟨by omega, by omega⟩)) trivial) (show 0 ≤ (((m 74 11) + 1) + 1) ∧ (((m 74 11) + 1) + 1) ≤ 32 from ⟨by omega, by omega⟩)))
theorem zb150_0r (hT : zRules T) {D : Nat} {κ : Option zA → zM → Prop} {m : zM} {f : Int} 
    (o1 : wr f < 0 → κ (some (zi (-1))) m)
    (o2 : ¬ wr f < 0 → ¬ 99 < wr f → T (D + 7) 150 (19, [(0, zr 1), (1, zi f), (2, zi 0), (3, zi 0), (4, zi 0)], [], m) κ)
    (o3 : ¬ wr f < 0 → 99 < wr f → κ (some (zi (-1))) m) :
    T (D + 7) 150 (0, [(0, zr 1), (1, zi f)], [], m) κ :=
  hT.1 [(19, [0, 1, 2, 3, 4])] 6 (D + 7) 150 _ κ (And.intro (fun a1 => (o1 a1)) (fun a2 => (And.intro (fun a3 => (hT.1 [(19, [0, 1, 2, 3, 4])] 6 (D + 7) 150 (13, [(0, zr 1), (1, zi f)], [zi 0], m) _ (o2 a2 a3))) (fun a4 => (hT.1 [(19, [0, 1, 2, 3, 4])] 6 (D + 7) 150 (11, [(0, zr 1), (1, zi f)], [zi (-1)], m) _ (o3 a2 (Classical.byContradiction a4)))))))
theorem zb150_0 (hT : zRules T) {D : Nat} {κ : Option zA → zM → Prop} {m : zM} {f : Int}  (hB : zB m) (h_f : (-2147483648) ≤ f ∧ f ≤ 2147483647) 
    (k1 : f < 0 → κ (some (zi (-1))) m)
    (k2 : ¬ f < 0 → ¬ 99 < f → T (D + 7) 150 (19, [(0, zr 1), (1, zi f), (2, zi 0), (3, zi 0), (4, zi 0)], [], m) κ)
    (k3 : ¬ f < 0 → 99 < f → κ (some (zi (-1))) m) :
    T (D + 7) 150 (0, [(0, zr 1), (1, zi f)], [], m) κ := by
  have he0 : wr f = f := wr_id (by omega) (by omega)
  have key := @zb150_0r T hT D κ m f
  simp only [he0, Int.toNat_natCast] at key
  exact key
    k1
    k2
    k3
theorem zb150_19r (hT : zRules T) {D : Nat} {κ : Option zA → zM → Prop} {m : zM} {f : Int} {s : Int} {o : Nat} {i : Nat} {lo : zL} (hlo : z_keep [0, 1, 2, 3, 4] lo = [(0, zr 1), (1, zi f), (2, zi s), (3, zi (o : Int)), (4, zi (i : Int))]) 
    (o1 : ¬ wr (i : Int) < wr (m 59 4) → κ (some (zi (wr s))) (zu (zu m 72 1 1) 73 0 (o : Int)))
    (o2 : wr (i : Int) < wr (m 59 4) → (0 ≤ wr (i : Int) ∧ wr (i : Int) < 12))
    (o3 : wr (i : Int) < wr (m 59 4) → T (D + 6) 182 (0, [(0, zr 1), (1, zi (i : Int)), (2, zi 0)], [], m) (fun r m1 => T (D + 7) 150 (48, [(0, zr 1), (1, zi f), (2, zi s), (3, zi (o : Int)), (4, zi (i : Int))], r.toList ++ [zi (m 63 ((wr (i : Int)).toNat))], m1) κ)) :
    T (D + 7) 150 (19, lo, [], m) κ :=
  zkeep hT hlo (hT.1 [(19, [0, 1, 2, 3, 4])] 6 (D + 7) 150 _ κ (And.intro (fun a1 => (hT.1 [(19, [0, 1, 2, 3, 4])] 6 (D + 7) 150 (82, [(0, zr 1), (1, zi f), (2, zi s), (3, zi (o : Int)), (4, zi (i : Int))], [zr 1], m) _ (hT.1 [] 6 (D + 6) 45 _ _ (And.intro trivial (hT.1 [] 6 (D + 6) 45 (10, [(0, zr 72), (1, zi (o : Int))], [zi 0, zr 73], (zu m 72 1 1)) _ (And.intro (And.intro (z_ixL rfl) trivial) (hT.1 [(19, [0, 1, 2, 3, 4])] 6 (D + 7) 150 _ _ (o1 a1)))))))) (fun a2 => (hT.1 [(19, [0, 1, 2, 3, 4])] 6 (D + 7) 150 (32, [(0, zr 1), (1, zi f), (2, zi s), (3, zi (o : Int)), (4, zi (i : Int))], [zr 1], m) _ (And.intro (o2 (Classical.byContradiction a2)) (hT.1 [(19, [0, 1, 2, 3, 4])] 6 (D + 7) 150 (44, [(0, zr 1), (1, zi f), (2, zi s), (3, zi (o : Int)), (4, zi (i : Int))], [zi (i : Int), zr 1, zi (m 63 ((wr (i : Int)).toNat))], m) _ (o3 (Classical.byContradiction a2))))))))
theorem zb150_19 (hT : zRules T) {D : Nat} {κ : Option zA → zM → Prop} {m : zM} {f : Int} {s : Int} {o : Nat} {i : Nat} {lo : zL} (hlo : z_keep [0, 1, 2, 3, 4] lo = [(0, zr 1), (1, zi f), (2, zi s), (3, zi (o : Int)), (4, zi (i : Int))])  (hB : zB m) (h_f : 0 ≤ f ∧ f ≤ 99) (h_s : 0 ≤ s ∧ s ≤ 118800) (h_o : o ≤ 4095) (h_i : i ≤ 12) 
    (k1 : ¬ (i : Int) < (m 59 4) → zB (zu (zu m 72 1 1) 73 0 (o : Int)) → κ (some (zi s)) (zu (zu m 72 1 1) 73 0 (o : Int)))
    (k2 : (i : Int) < (m 59 4) → T (D + 6) 182 (0, [(0, zr 1), (1, zi (i : Int)), (2, zi 0)], [], m) (fun r m1 => T (D + 7) 150 (48, [(0, zr 1), (1, zi f), (2, zi s), (3, zi (o : Int)), (4, zi (i : Int))], r.toList ++ [zi (m 63 i)], m1) κ)) :
    T (D + 7) 150 (19, lo, [], m) κ := by
  have hb4 : 0 ≤ (m 59 4) ∧ (m 59 4) ≤ 12 := hB 59 4
  have hb5 : 0 ≤ (m 63 i) ∧ (m 63 i) ≤ 99 := hB 63 i
  have he0 : wr (i : Int) = (i : Int) := wr_id (by omega) (by omega)
  have he1 : wr (m 59 4) = (m 59 4) := wr_id (by omega) (by omega)
  have he2 : (i : Int).toNat = i := by omega
  have he3 : wr s = s := wr_id (by omega) (by omega)
  have key := @zb150_19r T hT D κ m f s o i lo hlo
  simp only [he0, he1, he2, he3, Int.toNat_natCast] at key
  exact key
    (fun x0 => k1 x0 (zB_u (zB_u hB (show 0 ≤ 1 ∧ 1 ≤ 26 from ⟨by omega, by omega⟩)) trivial))
    (fun x0 => by refine ⟨?_, ?_⟩ <;> omega)
    k2
theorem zb150_48r (hT : zRules T) {D : Nat} {κ : Option zA → zM → Prop} {m : zM} {f : Int} {s : Int} {o : Nat} {i : Nat} {v : Int} {x : Int} {lo : zL} (hlo : z_keep [0, 1, 2, 3, 4] lo = [(0, zr 1), (1, zi f), (2, zi s), (3, zi (o : Int)), (4, zi (i : Int))]) 
    (o1 : ¬ wr (x - v) < 0 → wr (wr (x - v)) = 0 → T (D + 7) 150 (19, [(0, zr 1), (1, zi f), (2, zi s), (3, zi (o : Int)), (4, zi ((i : Int) + 1))], [], m) κ)
    (o2 : ¬ wr (x - v) < 0 → ¬ wr (wr (x - v)) = 0 → T (D + 7) 150 (19, [(0, zr 1), (1, zi f), (2, zi (s + (f * (wr (x - v) + 1)))), (3, zi (z_or (o : Int) (z_shl 1 (i : Int)))), (4, zi ((i : Int) + 1))], [], m) κ)
    (o3 : wr (x - v) < 0 → wr (wr (-(x - v))) = 0 → False)
    (o4 : wr (x - v) < 0 → ¬ wr (wr (-(x - v))) = 0 → T (D + 7) 150 (19, [(0, zr 1), (1, zi f), (2, zi (s + (f * (wr (-(x - v)) + 1)))), (3, zi (z_or (o : Int) (z_shl 1 (i : Int)))), (4, zi ((i : Int) + 1))], [], m) κ) :
    T (D + 7) 150 (48, lo, [zi v, zi x], m) κ :=
  zkeep hT hlo (hT.1 [(19, [0, 1, 2, 3, 4])] 6 (D + 7) 150 _ κ (hT.1 [] 6 (D + 6) 297 _ _ (And.intro (fun a1 => (hT.1 [(19, [0, 1, 2, 3, 4])] 6 (D + 7) 150 _ _ (And.intro (fun a3 => (o1 a1 a3)) (fun a4 => (hT.1 [(19, [0, 1, 2, 3, 4])] 6 (D + 7) 150 (63, [(0, zr 1), (1, zi f), (2, zi s), (3, zi (o : Int)), (4, zi (i : Int)), (5, zi (wr (x - v)))], [zi (wr (x - v)), zi f, zi s], m) _ (hT.1 [(19, [0, 1, 2, 3, 4])] 6 (D + 7) 150 (69, [(0, zr 1), (1, zi f), (2, zi (s + (f * (wr (x - v) + 1)))), (3, zi (o : Int)), (4, zi (i : Int)), (5, zi (wr (x - v)))], [zi (o : Int)], m) _ (hT.1 [(19, [0, 1, 2, 3, 4])] 6 (D + 7) 150 (78, [(0, zr 1), (1, zi f), (2, zi (s + (f * (wr (x - v) + 1)))), (3, zi (z_or (o : Int) (z_shl 1 (i : Int)))), (4, zi ((i : Int) + 1)), (5, zi (wr (x - v)))], [], m) _ (o2 a1 a4)))))))) (fun a2 => (hT.1 [(19, [0, 1, 2, 3, 4])] 6 (D + 7) 150 _ _ (And.intro (fun a5 => (o3 (Classical.byContradiction a2) a5).elim) (fun a6 => (hT.1 [(19, [0, 1, 2, 3, 4])] 6 (D + 7) 150 (63, [(0, zr 1), (1, zi f), (2, zi s), (3, zi (o : Int)), (4, zi (i : Int)), (5, zi (wr (-(x - v))))], [zi (wr (-(x - v))), zi f, zi s], m) _ (hT.1 [(19, [0, 1, 2, 3, 4])] 6 (D + 7) 150 (69, [(0, zr 1), (1, zi f), (2, zi (s + (f * (wr (-(x - v)) + 1)))), (3, zi (o : Int)), (4, zi (i : Int)), (5, zi (wr (-(x - v))))], [zi (o : Int)], m) _ (hT.1 [(19, [0, 1, 2, 3, 4])] 6 (D + 7) 150 (78, [(0, zr 1), (1, zi f), (2, zi (s + (f * (wr (-(x - v)) + 1)))), (3, zi (z_or (o : Int) (z_shl 1 (i : Int)))), (4, zi ((i : Int) + 1)), (5, zi (wr (-(x - v))))], [], m) _ (o4 (Classical.byContradiction a2) a6)))))))))))
theorem zb150_48 (hT : zRules T) {D : Nat} {κ : Option zA → zM → Prop} {m : zM} {f : Int} {s : Int} {o : Nat} {i : Nat} {v : Int} {x : Int} {lo : zL} (hlo : z_keep [0, 1, 2, 3, 4] lo = [(0, zr 1), (1, zi f), (2, zi s), (3, zi (o : Int)), (4, zi (i : Int))])  (hB : zB m) (h_f : 0 ≤ f ∧ f ≤ 99) (h_s : 0 ≤ s ∧ s ≤ 118800) (h_o : o ≤ 4095) (h_i : i ≤ 11) (h_v : 0 ≤ v ∧ v ≤ 99) (h_x : 0 ≤ x ∧ x ≤ 99) 
    (k1 : ¬ (x - v) < 0 → (x - v) = 0 → T (D + 7) 150 (19, [(0, zr 1), (1, zi f), (2, zi s), (3, zi (o : Int)), (4, zi ((i : Int) + 1))], [], m) κ)
    (k2 : ¬ (x - v) < 0 → ¬ (x - v) = 0 → T (D + 7) 150 (19, [(0, zr 1), (1, zi f), (2, zi (s + (f * ((x - v) + 1)))), (3, zi (z_or (o : Int) (z_shl 1 (i : Int)))), (4, zi ((i : Int) + 1))], [], m) κ)
    (k3 : (x - v) < 0 → T (D + 7) 150 (19, [(0, zr 1), (1, zi f), (2, zi (s + (f * ((-(x - v)) + 1)))), (3, zi (z_or (o : Int) (z_shl 1 (i : Int)))), (4, zi ((i : Int) + 1))], [], m) κ) :
    T (D + 7) 150 (48, lo, [zi v, zi x], m) κ := by
  have hb6 : (-2147483648) ≤ (z_shl 1 (i : Int)) ∧ (z_shl 1 (i : Int)) ≤ 2147483647 := z_shlB 1 (i : Int)
  have hb7 : (-2147483648) ≤ (z_or (o : Int) (z_shl 1 (i : Int))) ∧ (z_or (o : Int) (z_shl 1 (i : Int))) ≤ 2147483647 := z_orB (o : Int) (z_shl 1 (i : Int))
  have he0 : wr (x - v) = (x - v) := wr_id (by omega) (by omega)
  have he1 : wr (-(x - v)) = (-(x - v)) := wr_id (by omega) (by omega)
  have key := @zb150_48r T hT D κ m f s o i v x lo hlo
  simp only [he0, he1, Int.toNat_natCast] at key
  exact key
    k1
    k2
    (fun x0 x1 => by omega)
    (fun x0 x1 => k3 x0)
theorem zb182_0r (hT : zRules T) {D : Nat} {κ : Option zA → zM → Prop} {m : zM} {i : Nat} {l : Int} 
    (o1 : (0 ≤ wr (i : Int) ∧ wr (i : Int) < 12))
    (o2 : (0 ≤ wr (i : Int) ∧ wr (i : Int) < 12))
    (o3 : (0 ≤ wr (i : Int) ∧ wr (i : Int) < 12))
    (o4 : T (D + 5) 169 (0, [(0, zr 1), (1, zi (m 60 ((wr (i : Int)).toNat))), (2, zi (m 61 ((wr (i : Int)).toNat))), (3, zi ((m 62 ((wr (i : Int)).toNat)) + l))], [], m) (fun r m1 => T (D + 6) 182 (33, [(0, zr 1), (1, zi (i : Int)), (2, zi l)], r.toList ++ [], m1) κ)) :
    T (D + 6) 182 (0, [(0, zr 1), (1, zi (i : Int)), (2, zi l)], [], m) κ :=
  hT.1 [] 6 (D + 6) 182 _ κ (And.intro (o1) (hT.1 [] 6 (D + 6) 182 (10, [(0, zr 1), (1, zi (i : Int)), (2, zi l)], [zi (m 60 ((wr (i : Int)).toNat)), zr 1], m) _ (And.intro (o2) (hT.1 [] 6 (D + 6) 182 (20, [(0, zr 1), (1, zi (i : Int)), (2, zi l)], [zr 1, zi (m 61 ((wr (i : Int)).toNat)), zi (m 60 ((wr (i : Int)).toNat)), zr 1], m) _ (And.intro (o3) (hT.1 [] 6 (D + 6) 182 (30, [(0, zr 1), (1, zi (i : Int)), (2, zi l)], [zi ((m 62 ((wr (i : Int)).toNat)) + l), zi (m 61 ((wr (i : Int)).toNat)), zi (m 60 ((wr (i : Int)).toNat)), zr 1], m) _ (o4)))))))
theorem zb182_0 (hT : zRules T) {D : Nat} {κ : Option zA → zM → Prop} {m : zM} {i : Nat} {l : Int}  (hB : zB m) (h_i : i ≤ 11) (h_l : (-13) ≤ l ∧ l ≤ 13) 
    (k1 : T (D + 5) 169 (0, [(0, zr 1), (1, zi (m 60 i)), (2, zi (m 61 i)), (3, zi ((m 62 i) + l))], [], m) (fun r m1 => T (D + 6) 182 (33, [(0, zr 1), (1, zi (i : Int)), (2, zi l)], r.toList ++ [], m1) κ)) :
    T (D + 6) 182 (0, [(0, zr 1), (1, zi (i : Int)), (2, zi l)], [], m) κ := by
  have hb2 : 0 ≤ (m 60 i) ∧ (m 60 i) ≤ 5 := hB 60 i
  have hb3 : 0 ≤ (m 61 i) ∧ (m 61 i) ≤ 3 := hB 61 i
  have hb4 : 0 ≤ (m 62 i) ∧ (m 62 i) ≤ 9999 := hB 62 i
  have he0 : wr (i : Int) = (i : Int) := wr_id (by omega) (by omega)
  have he1 : (i : Int).toNat = i := by omega
  have key := @zb182_0r T hT D κ m i l
  simp only [he0, he1, Int.toNat_natCast] at key
  exact key
    (by refine ⟨?_, ?_⟩ <;> omega)
    (by refine ⟨?_, ?_⟩ <;> omega)
    (by refine ⟨?_, ?_⟩ <;> omega)
    k1
theorem zb182_33r (hT : zRules T) {D : Nat} {κ : Option zA → zM → Prop} {m : zM} {v : Int} {lo : zL} (hlo : z_keep [] lo = []) 
    (o1 : κ (some (zi (wr v))) m) :
    T (D + 6) 182 (33, lo, [zi v], m) κ :=
  zkeep hT hlo (hT.1 [] 6 (D + 6) 182 _ κ (o1))
theorem zb182_33 (hT : zRules T) {D : Nat} {κ : Option zA → zM → Prop} {m : zM} {v : Int} {lo : zL} (hlo : z_keep [] lo = [])  (h_v : 0 ≤ v ∧ v ≤ 99) 
    (k1 : κ (some (zi v)) m) :
    T (D + 6) 182 (33, lo, [zi v], m) κ := by
  have he0 : wr v = v := wr_id (by omega) (by omega)
  have key := @zb182_33r T hT D κ m v lo hlo
  simp only [he0, Int.toNat_natCast] at key
  exact key
    k1
theorem zb275_0r (hT : zRules T) {D : Nat} {κ : Option zA → zM → Prop} {m : zM} {f : Int} 
    (o1 : wr f < 0 → κ (some (zi (-1))) (zu m 74 12 0))
    (o2 : ¬ wr f < 0 → 99 < wr f → κ (some (zi (-1))) (zu m 74 12 0))
    (o3 : ¬ wr f < 0 → ¬ 99 < wr f → T (D + 4) 275 (24, [(0, zr 74), (1, zi f), (2, zi 0), (3, zi 0), (4, zi 0)], [], (zu m 74 12 0)) κ) :
    T (D + 4) 275 (0, [(0, zr 74), (1, zi f)], [], m) κ :=
  hT.1 [(24, [0, 1, 2, 3, 4])] 6 (D + 4) 275 _ κ (And.intro trivial (hT.1 [(24, [0, 1, 2, 3, 4])] 6 (D + 4) 275 (9, [(0, zr 74), (1, zi f)], [zi 99, zi 0, zi f], (zu m 74 12 0)) _ (hT.1 [] 6 (D + 3) 186 _ _ (And.intro (fun a1 => (And.intro (z_b01L rfl) (hT.1 [(24, [0, 1, 2, 3, 4])] 6 (D + 4) 275 _ _ (And.intro (fun a3 => (z_litF a3 rfl).elim) (fun _ => (o1 a1)))))) (fun a2 => (And.intro (fun a4 => (hT.1 [] 6 (D + 3) 186 (14, [(0, zi f), (1, zi 0), (2, zi 99)], [], (zu m 74 12 0)) _ (And.intro (z_b01L rfl) (hT.1 [(24, [0, 1, 2, 3, 4])] 6 (D + 4) 275 _ _ (And.intro (fun a6 => (z_litF a6 rfl).elim) (fun _ => (o2 a2 a4))))))) (fun a5 => (hT.1 [] 6 (D + 3) 186 (10, [(0, zi f), (1, zi 0), (2, zi 99)], [], (zu m 74 12 0)) _ (And.intro (z_b01L rfl) (hT.1 [(24, [0, 1, 2, 3, 4])] 6 (D + 4) 275 _ _ (And.intro (fun _ => (hT.1 [(24, [0, 1, 2, 3, 4])] 6 (D + 4) 275 (22, [(0, zr 74), (1, zi f), (2, zi 0), (3, zi 0)], [zi 0], (zu m 74 12 0)) _ (o3 a2 a5))) (fun a7 => (a7 (z_litT rfl)).elim))))))))))))
theorem zb275_0 (hT : zRules T) {D : Nat} {κ : Option zA → zM → Prop} {m : zM} {f : Int}  (hB : zB m) (h_f : (-2147483648) ≤ f ∧ f ≤ 2147483647) 
    (k1 : f < 0 → zB (zu m 74 12 0) → κ (some (zi (-1))) (zu m 74 12 0))
    (k2 : ¬ f < 0 → 99 < f → zB (zu m 74 12 0) → κ (some (zi (-1))) (zu m 74 12 0))
    (k3 : ¬ f < 0 → ¬ 99 < f → zB (zu m 74 12 0) → T (D + 4) 275 (24, [(0, zr 74), (1, zi f), (2, zi 0), (3, zi 0), (4, zi 0)], [], (zu m 74 12 0)) κ) :
    T (D + 4) 275 (0, [(0, zr 74), (1, zi f)], [], m) κ := by
  have he0 : wr f = f := wr_id (by omega) (by omega)
  have key := @zb275_0r T hT D κ m f
  simp only [he0, Int.toNat_natCast] at key
  exact key
    (fun x0 => k1 x0 (zB_u hB trivial))
    (fun x0 x1 => k2 x0 x1 (zB_u hB trivial))
    (fun x0 x1 => k3 x0 x1 (zB_u hB trivial))
theorem zb275_24r (hT : zRules T) {D : Nat} {κ : Option zA → zM → Prop} {m : zM} {f : Int} {s : Int} {o : Nat} {i : Nat} {lo : zL} (hlo : z_keep [0, 1, 2, 3, 4] lo = [(0, zr 74), (1, zi f), (2, zi s), (3, zi (o : Int)), (4, zi (i : Int))]) 
    (o1 : ¬ wr (i : Int) < wr (m 74 52) → κ (some (zi (wr s))) (zu (zu (zu m 74 11 0) 81 0 (o : Int)) 74 11 1))
    (o2 : wr (i : Int) < wr (m 74 52) → (0 ≤ wr ((4 * (i : Int)) + 3) ∧ wr ((4 * (i : Int)) + 3) < 48))
    (o3 : wr (i : Int) < wr (m 74 52) → (0 ≤ wr (4 * (i : Int)) ∧ wr (4 * (i : Int)) < 48))
    (o4 : wr (i : Int) < wr (m 74 52) → (0 ≤ wr ((4 * (i : Int)) + 1) ∧ wr ((4 * (i : Int)) + 1) < 48))
    (o5 : wr (i : Int) < wr (m 74 52) → (0 ≤ wr ((4 * (i : Int)) + 2) ∧ wr ((4 * (i : Int)) + 2) < 48))
    (o6 : wr (i : Int) < wr (m 74 52) → T (D + 3) 215 (0, [(0, zr 74), (1, zi (m 99 ((wr (4 * (i : Int))).toNat))), (2, zi (m 99 ((wr ((4 * (i : Int)) + 1)).toNat))), (3, zi (m 99 ((wr ((4 * (i : Int)) + 2)).toNat)))], [], m) (fun r m1 => T (D + 4) 275 (79, [(0, zr 74), (1, zi f), (2, zi s), (3, zi (o : Int)), (4, zi (i : Int))], r.toList ++ [zi (m 99 ((wr ((4 * (i : Int)) + 3)).toNat))], m1) κ)) :
    T (D + 4) 275 (24, lo, [], m) κ :=
  zkeep hT hlo (hT.1 [(24, [0, 1, 2, 3, 4])] 6 (D + 4) 275 _ κ (And.intro (fun a1 => (hT.1 [(24, [0, 1, 2, 3, 4])] 6 (D + 4) 275 (117, [(0, zr 74), (1, zi f), (2, zi s), (3, zi (o : Int)), (4, zi (i : Int))], [zi 0, zr 74], m) _ (And.intro trivial (hT.1 [] 6 (D + 3) 189 _ _ (And.intro (And.intro (z_ixL rfl) trivial) (hT.1 [] 6 (D + 3) 189 (10, [(0, zr 74), (1, zi (o : Int))], [], (zu (zu m 74 11 0) 81 0 (o : Int))) _ (And.intro trivial (hT.1 [] 6 (D + 3) 189 (20, [(0, zr 74), (1, zi (o : Int))], [], (zu (zu (zu m 74 11 0) 81 0 (o : Int)) 74 11 1)) _ (hT.1 [(24, [0, 1, 2, 3, 4])] 6 (D + 4) 275 _ _ (o1 a1)))))))))) (fun a2 => (hT.1 [(24, [0, 1, 2, 3, 4])] 6 (D + 4) 275 (37, [(0, zr 74), (1, zi f), (2, zi s), (3, zi (o : Int)), (4, zi (i : Int))], [zr 99], m) _ (And.intro (o2 (Classical.byContradiction a2)) (hT.1 [(24, [0, 1, 2, 3, 4])] 6 (D + 4) 275 (44, [(0, zr 74), (1, zi f), (2, zi s), (3, zi (o : Int)), (4, zi (i : Int))], [zi (m 99 ((wr ((4 * (i : Int)) + 3)).toNat))], m) _ (hT.1 [(24, [0, 1, 2, 3, 4])] 6 (D + 4) 275 (53, [(0, zr 74), (1, zi f), (2, zi s), (3, zi (o : Int)), (4, zi (i : Int))], [zi (4 * (i : Int)), zr 99, zr 74, zi (m 99 ((wr ((4 * (i : Int)) + 3)).toNat))], m) _ (And.intro (o3 (Classical.byContradiction a2)) (hT.1 [(24, [0, 1, 2, 3, 4])] 6 (D + 4) 275 (62, [(0, zr 74), (1, zi f), (2, zi s), (3, zi (o : Int)), (4, zi (i : Int))], [zi (4 * (i : Int)), zr 99, zi (m 99 ((wr (4 * (i : Int))).toNat)), zr 74, zi (m 99 ((wr ((4 * (i : Int)) + 3)).toNat))], m) _ (And.intro (o4 (Classical.byContradiction a2)) (hT.1 [(24, [0, 1, 2, 3, 4])] 6 (D + 4) 275 (70, [(0, zr 74), (1, zi f), (2, zi s), (3, zi (o : Int)), (4, zi (i : Int))], [zi 4, zr 99, zi (m 99 ((wr ((4 * (i : Int)) + 1)).toNat)), zi (m 99 ((wr (4 * (i : Int))).toNat)), zr 74, zi (m 99 ((wr ((4 * (i : Int)) + 3)).toNat))], m) _ (And.intro (o5 (Classical.byContradiction a2)) (o6 (Classical.byContradiction a2))))))))))))))
theorem zb275_24 (hT : zRules T) {D : Nat} {κ : Option zA → zM → Prop} {m : zM} {f : Int} {s : Int} {o : Nat} {i : Nat} {lo : zL} (hlo : z_keep [0, 1, 2, 3, 4] lo = [(0, zr 74), (1, zi f), (2, zi s), (3, zi (o : Int)), (4, zi (i : Int))])  (hB : zB m) (h_f : 0 ≤ f ∧ f ≤ 99) (h_s : 0 ≤ s ∧ s ≤ 118800) (h_o : o ≤ 4095) (h_i : i ≤ 12) 
    (k1 : ¬ (i : Int) < (m 74 52) → zB (zu (zu (zu m 74 11 0) 81 0 (o : Int)) 74 11 1) → κ (some (zi s)) (zu (zu (zu m 74 11 0) 81 0 (o : Int)) 74 11 1))
    (k2 : (i : Int) < (m 74 52) → T (D + 3) 215 (0, [(0, zr 74), (1, zi (m 99 (4 * i))), (2, zi (m 99 (4 * i + 1))), (3, zi (m 99 (4 * i + 2)))], [], m) (fun r m1 => T (D + 4) 275 (79, [(0, zr 74), (1, zi f), (2, zi s), (3, zi (o : Int)), (4, zi (i : Int))], r.toList ++ [zi (m 99 (4 * i + 3))], m1) κ)) :
    T (D + 4) 275 (24, lo, [], m) κ := by
  have hb4 : 0 ≤ (m 74 52) ∧ (m 74 52) ≤ 12 := hB 74 52
  have hb5 : 0 ≤ (m 99 (4 * i + 3)) ∧ (m 99 (4 * i + 3)) ≤ 9999 := hB 99 (4 * i + 3)
  have hb6 : 0 ≤ (m 99 (4 * i)) ∧ (m 99 (4 * i)) ≤ 9999 := hB 99 (4 * i)
  have hb7 : 0 ≤ (m 99 (4 * i + 1)) ∧ (m 99 (4 * i + 1)) ≤ 9999 := hB 99 (4 * i + 1)
  have hb8 : 0 ≤ (m 99 (4 * i + 2)) ∧ (m 99 (4 * i + 2)) ≤ 9999 := hB 99 (4 * i + 2)
  have he0 : wr (i : Int) = (i : Int) := wr_id (by omega) (by omega)
  have he1 : wr (m 74 52) = (m 74 52) := wr_id (by omega) (by omega)
  have he2 : wr ((4 * (i : Int)) + 3) = ((4 * (i : Int)) + 3) := wr_id (by omega) (by omega)
  have he3 : ((4 * (i : Int)) + 3).toNat = 4 * i + 3 := by omega
  have he4 : wr (4 * (i : Int)) = (4 * (i : Int)) := wr_id (by omega) (by omega)
  have he5 : (4 * (i : Int)).toNat = 4 * i := by omega
  have he6 : wr ((4 * (i : Int)) + 1) = ((4 * (i : Int)) + 1) := wr_id (by omega) (by omega)
  have he7 : ((4 * (i : Int)) + 1).toNat = 4 * i + 1 := by omega
  have he8 : wr ((4 * (i : Int)) + 2) = ((4 * (i : Int)) + 2) := wr_id (by omega) (by omega)
  have he9 : ((4 * (i : Int)) + 2).toNat = 4 * i + 2 := by omega
  have he10 : wr s = s := wr_id (by omega) (by omega)
  have key := @zb275_24r T hT D κ m f s o i lo hlo
  simp only [he0, he1, he2, he3, he4, he5, he6, he7, he8, he9, he10, Int.toNat_natCast] at key
  exact key
    (fun x0 => k1 x0 (zB_u (zB_u (zB_u hB (show 0 ≤ 0 ∧ 0 ≤ 32 from ⟨by omega, by omega⟩)) trivial) (show 0 ≤ 1 ∧ 1 ≤ 32 from ⟨by omega, by omega⟩)))
    (fun x0 => by refine ⟨?_, ?_⟩ <;> omega)
    (fun x0 => by refine ⟨?_, ?_⟩ <;> omega)
    (fun x0 => by refine ⟨?_, ?_⟩ <;> omega)
    (fun x0 => by refine ⟨?_, ?_⟩ <;> omega)
    k2
theorem zb275_79r (hT : zRules T) {D : Nat} {κ : Option zA → zM → Prop} {m : zM} {f : Int} {s : Int} {o : Nat} {i : Nat} {v : Int} {x : Int} {lo : zL} (hlo : z_keep [0, 1, 2, 3, 4] lo = [(0, zr 74), (1, zi f), (2, zi s), (3, zi (o : Int)), (4, zi (i : Int))]) 
    (o1 : ¬ wr (x - v) < 0 → ¬ wr (wr (x - v)) = 0 → T (D + 4) 275 (24, [(0, zr 74), (1, zi f), (2, zi (s + ((f * wr (x - v)) + f))), (3, zi (z_or (o : Int) (z_shl 1 (i : Int)))), (4, zi ((i : Int) + 1))], [], m) κ)
    (o2 : ¬ wr (x - v) < 0 → wr (wr (x - v)) = 0 → T (D + 4) 275 (24, [(0, zr 74), (1, zi f), (2, zi s), (3, zi (o : Int)), (4, zi ((i : Int) + 1))], [], m) κ)
    (o3 : wr (x - v) < 0 → ¬ wr (wr (-(x - v))) = 0 → T (D + 4) 275 (24, [(0, zr 74), (1, zi f), (2, zi (s + ((f * wr (-(x - v))) + f))), (3, zi (z_or (o : Int) (z_shl 1 (i : Int)))), (4, zi ((i : Int) + 1))], [], m) κ)
    (o4 : wr (x - v) < 0 → wr (wr (-(x - v))) = 0 → False) :
    T (D + 4) 275 (79, lo, [zi v, zi x], m) κ :=
  zkeep hT hlo (hT.1 [(24, [0, 1, 2, 3, 4])] 6 (D + 4) 275 _ κ (hT.1 [] 6 (D + 3) 297 _ _ (And.intro (fun a1 => (hT.1 [(24, [0, 1, 2, 3, 4])] 6 (D + 4) 275 _ _ (And.intro (fun a3 => (hT.1 [(24, [0, 1, 2, 3, 4])] 6 (D + 4) 275 (97, [(0, zr 74), (1, zi f), (2, zi s), (3, zi (o : Int)), (4, zi (i : Int)), (5, zi (wr (x - v)))], [zi (wr (x - v)), zi f, zi s], m) _ (hT.1 [(24, [0, 1, 2, 3, 4])] 6 (D + 4) 275 (103, [(0, zr 74), (1, zi f), (2, zi (s + ((f * wr (x - v)) + f))), (3, zi (o : Int)), (4, zi (i : Int)), (5, zi (wr (x - v)))], [zi (o : Int)], m) _ (hT.1 [(24, [0, 1, 2, 3, 4])] 6 (D + 4) 275 (112, [(0, zr 74), (1, zi f), (2, zi (s + ((f * wr (x - v)) + f))), (3, zi (z_or (o : Int) (z_shl 1 (i : Int)))), (4, zi ((i : Int) + 1)), (5, zi (wr (x - v)))], [], m) _ (o1 a1 a3))))) (fun a4 => (o2 a1 (Classical.byContradiction a4)))))) (fun a2 => (hT.1 [(24, [0, 1, 2, 3, 4])] 6 (D + 4) 275 _ _ (And.intro (fun a5 => (hT.1 [(24, [0, 1, 2, 3, 4])] 6 (D + 4) 275 (97, [(0, zr 74), (1, zi f), (2, zi s), (3, zi (o : Int)), (4, zi (i : Int)), (5, zi (wr (-(x - v))))], [zi (wr (-(x - v))), zi f, zi s], m) _ (hT.1 [(24, [0, 1, 2, 3, 4])] 6 (D + 4) 275 (103, [(0, zr 74), (1, zi f), (2, zi (s + ((f * wr (-(x - v))) + f))), (3, zi (o : Int)), (4, zi (i : Int)), (5, zi (wr (-(x - v))))], [zi (o : Int)], m) _ (hT.1 [(24, [0, 1, 2, 3, 4])] 6 (D + 4) 275 (112, [(0, zr 74), (1, zi f), (2, zi (s + ((f * wr (-(x - v))) + f))), (3, zi (z_or (o : Int) (z_shl 1 (i : Int)))), (4, zi ((i : Int) + 1)), (5, zi (wr (-(x - v))))], [], m) _ (o3 (Classical.byContradiction a2) a5))))) (fun a6 => (o4 (Classical.byContradiction a2) (Classical.byContradiction a6)).elim)))))))
theorem zb275_79 (hT : zRules T) {D : Nat} {κ : Option zA → zM → Prop} {m : zM} {f : Int} {s : Int} {o : Nat} {i : Nat} {v : Int} {x : Int} {lo : zL} (hlo : z_keep [0, 1, 2, 3, 4] lo = [(0, zr 74), (1, zi f), (2, zi s), (3, zi (o : Int)), (4, zi (i : Int))])  (hB : zB m) (h_f : 0 ≤ f ∧ f ≤ 99) (h_s : 0 ≤ s ∧ s ≤ 118800) (h_o : o ≤ 4095) (h_i : i ≤ 11) (h_v : 0 ≤ v ∧ v ≤ 99) (h_x : 0 ≤ x ∧ x ≤ 99) 
    (k1 : ¬ (x - v) < 0 → ¬ (x - v) = 0 → T (D + 4) 275 (24, [(0, zr 74), (1, zi f), (2, zi (s + ((f * (x - v)) + f))), (3, zi (z_or (o : Int) (z_shl 1 (i : Int)))), (4, zi ((i : Int) + 1))], [], m) κ)
    (k2 : ¬ (x - v) < 0 → (x - v) = 0 → T (D + 4) 275 (24, [(0, zr 74), (1, zi f), (2, zi s), (3, zi (o : Int)), (4, zi ((i : Int) + 1))], [], m) κ)
    (k3 : (x - v) < 0 → T (D + 4) 275 (24, [(0, zr 74), (1, zi f), (2, zi (s + ((f * (-(x - v))) + f))), (3, zi (z_or (o : Int) (z_shl 1 (i : Int)))), (4, zi ((i : Int) + 1))], [], m) κ) :
    T (D + 4) 275 (79, lo, [zi v, zi x], m) κ := by
  have hb6 : (-2147483648) ≤ (z_shl 1 (i : Int)) ∧ (z_shl 1 (i : Int)) ≤ 2147483647 := z_shlB 1 (i : Int)
  have hb7 : (-2147483648) ≤ (z_or (o : Int) (z_shl 1 (i : Int))) ∧ (z_or (o : Int) (z_shl 1 (i : Int))) ≤ 2147483647 := z_orB (o : Int) (z_shl 1 (i : Int))
  have he0 : wr (x - v) = (x - v) := wr_id (by omega) (by omega)
  have he1 : wr (-(x - v)) = (-(x - v)) := wr_id (by omega) (by omega)
  have key := @zb275_79r T hT D κ m f s o i v x lo hlo
  simp only [he0, he1, Int.toNat_natCast] at key
  exact key
    k1
    k2
    (fun x0 x1 => k3 x0)
    (fun x0 x1 => by omega)
theorem zb151_0r (hT : zRules T) {D : Nat} {κ : Option zA → zM → Prop} {m : zM} 
    (o1 : T (D + 8) 151 (5, [(0, zr 1), (1, zi 0), (2, zi (-13))], [], m) κ) :
    T (D + 8) 151 (0, [(0, zr 1)], [], m) κ :=
  hT.1 [(5, [0, 1, 2])] 6 (D + 8) 151 _ κ (o1)
theorem zb151_0 (hT : zRules T) {D : Nat} {κ : Option zA → zM → Prop} {m : zM}  (hB : zB m) 
    (k1 : T (D + 8) 151 (5, [(0, zr 1), (1, zi 0), (2, zi (-13))], [], m) κ) :
    T (D + 8) 151 (0, [(0, zr 1)], [], m) κ := by
  exact zb151_0r hT
    k1
theorem zb151_5r (hT : zRules T) {D : Nat} {κ : Option zA → zM → Prop} {m : zM} {b : Nat} {l : Int} {lo : zL} (hlo : z_keep [0, 1, 2] lo = [(0, zr 1), (1, zi (b : Int)), (2, zi l)]) 
    (o1 : 13 < wr l → κ (some (zi (wr (b : Int)))) m)
    (o2 : ¬ 13 < wr l → T (D + 7) 183 (0, [(0, zr 1), (1, zi l)], [], m) (fun r m1 => T (D + 8) 151 (16, [(0, zr 1), (1, zi (b : Int)), (2, zi l)], r.toList ++ [], m1) κ)) :
    T (D + 8) 151 (5, lo, [], m) κ :=
  zkeep hT hlo (hT.1 [(5, [0, 1, 2])] 6 (D + 8) 151 _ κ (And.intro (fun a1 => (o1 a1)) (fun a2 => (o2 a2))))
theorem zb151_5 (hT : zRules T) {D : Nat} {κ : Option zA → zM → Prop} {m : zM} {b : Nat} {l : Int} {lo : zL} (hlo : z_keep [0, 1, 2] lo = [(0, zr 1), (1, zi (b : Int)), (2, zi l)])  (hB : zB m) (h_b : b ≤ 134217727) (h_l : (-13) ≤ l ∧ l ≤ 14) 
    (k1 : 13 < l → κ (some (zi (b : Int))) m)
    (k2 : ¬ 13 < l → T (D + 7) 183 (0, [(0, zr 1), (1, zi l)], [], m) (fun r m1 => T (D + 8) 151 (16, [(0, zr 1), (1, zi (b : Int)), (2, zi l)], r.toList ++ [], m1) κ)) :
    T (D + 8) 151 (5, lo, [], m) κ := by
  have he0 : wr l = l := wr_id (by omega) (by omega)
  have he1 : wr (b : Int) = (b : Int) := wr_id (by omega) (by omega)
  have key := @zb151_5r T hT D κ m b l lo hlo
  simp only [he0, he1, Int.toNat_natCast] at key
  exact key
    k1
    k2
theorem zb151_16r (hT : zRules T) {D : Nat} {κ : Option zA → zM → Prop} {m : zM} {b : Nat} {l : Int} {v : Int} {lo : zL} (hlo : z_keep [0, 1, 2] lo = [(0, zr 1), (1, zi (b : Int)), (2, zi l)]) 
    (o1 : wr v = 0 → T (D + 8) 151 (5, [(0, zr 1), (1, zi (b : Int)), (2, zi (l + 1))], [], m) κ)
    (o2 : ¬ wr v = 0 → T (D + 8) 151 (5, [(0, zr 1), (1, zi (z_or (b : Int) (z_shl 1 (l + 13)))), (2, zi (l + 1))], [], m) κ) :
    T (D + 8) 151 (16, lo, [zi v], m) κ :=
  zkeep hT hlo (hT.1 [(5, [0, 1, 2])] 6 (D + 8) 151 _ κ (And.intro (fun a1 => (o1 a1)) (fun a2 => (hT.1 [(5, [0, 1, 2])] 6 (D + 8) 151 (25, [(0, zr 1), (1, zi (b : Int)), (2, zi l)], [zi (l + 13), zi 1, zi (b : Int)], m) _ (o2 a2)))))
theorem zb151_16 (hT : zRules T) {D : Nat} {κ : Option zA → zM → Prop} {m : zM} {b : Nat} {l : Int} {v : Int} {lo : zL} (hlo : z_keep [0, 1, 2] lo = [(0, zr 1), (1, zi (b : Int)), (2, zi l)])  (hB : zB m) (h_b : b ≤ 134217727) (h_l : (-13) ≤ l ∧ l ≤ 13) (h_v : 0 ≤ v ∧ v ≤ 1) 
    (k1 : v = 0 → T (D + 8) 151 (5, [(0, zr 1), (1, zi (b : Int)), (2, zi (l + 1))], [], m) κ)
    (k2 : ¬ v = 0 → T (D + 8) 151 (5, [(0, zr 1), (1, zi (z_or (b : Int) (z_shl 1 (l + 13)))), (2, zi (l + 1))], [], m) κ) :
    T (D + 8) 151 (16, lo, [zi v], m) κ := by
  have hb3 : (-2147483648) ≤ (z_shl 1 (l + 13)) ∧ (z_shl 1 (l + 13)) ≤ 2147483647 := z_shlB 1 (l + 13)
  have hb4 : (-2147483648) ≤ (z_or (b : Int) (z_shl 1 (l + 13))) ∧ (z_or (b : Int) (z_shl 1 (l + 13))) ≤ 2147483647 := z_orB (b : Int) (z_shl 1 (l + 13))
  have he0 : wr v = v := wr_id (by omega) (by omega)
  have key := @zb151_16r T hT D κ m b l v lo hlo
  simp only [he0, Int.toNat_natCast] at key
  exact key
    k1
    k2
theorem zb183_0r (hT : zRules T) {D : Nat} {κ : Option zA → zM → Prop} {m : zM} {l : Int} 
    (o1 : T (D + 7) 183 (2, [(0, zr 1), (1, zi l), (2, zi 0)], [], m) κ) :
    T (D + 7) 183 (0, [(0, zr 1), (1, zi l)], [], m) κ :=
  hT.1 [(2, [0, 1, 2])] 6 (D + 7) 183 _ κ (o1)
theorem zb183_0 (hT : zRules T) {D : Nat} {κ : Option zA → zM → Prop} {m : zM} {l : Int}  (hB : zB m) (h_l : (-13) ≤ l ∧ l ≤ 13) 
    (k1 : T (D + 7) 183 (2, [(0, zr 1), (1, zi l), (2, zi 0)], [], m) κ) :
    T (D + 7) 183 (0, [(0, zr 1), (1, zi l)], [], m) κ := by
  exact zb183_0r hT
    k1
theorem zb183_2r (hT : zRules T) {D : Nat} {κ : Option zA → zM → Prop} {m : zM} {l : Int} {i : Nat} {lo : zL} (hlo : z_keep [0, 1, 2] lo = [(0, zr 1), (1, zi l), (2, zi (i : Int))]) 
    (o1 : ¬ wr (i : Int) < wr (m 59 4) → κ (some (zi 1)) m)
    (o2 : wr (i : Int) < wr (m 59 4) → (0 ≤ wr (i : Int) ∧ wr (i : Int) < 12))
    (o3 : wr (i : Int) < wr (m 59 4) → wr ((m 62 ((wr (i : Int)).toNat)) + l) < 0 → κ (some (zi 0)) m)
    (o4 : wr (i : Int) < wr (m 59 4) → ¬ wr ((m 62 ((wr (i : Int)).toNat)) + l) < 0 → T (D + 6) 182 (0, [(0, zr 1), (1, zi (i : Int)), (2, zi l)], [], m) (fun r m1 => T (D + 7) 183 (33, [(0, zr 1), (1, zi l), (2, zi (i : Int))], r.toList ++ [], m1) κ)) :
    T (D + 7) 183 (2, lo, [], m) κ :=
  zkeep hT hlo (hT.1 [(2, [0, 1, 2])] 6 (D + 7) 183 _ κ (And.intro (fun a1 => (hT.1 [(2, [0, 1, 2])] 6 (D + 7) 183 (54, [(0, zr 1), (1, zi l), (2, zi (i : Int))], [zi 1], m) _ (And.intro (z_b01L rfl) (o1 a1)))) (fun a2 => (hT.1 [(2, [0, 1, 2])] 6 (D + 7) 183 (14, [(0, zr 1), (1, zi l), (2, zi (i : Int))], [zr 1], m) _ (And.intro (o2 (Classical.byContradiction a2)) (hT.1 [(2, [0, 1, 2])] 6 (D + 7) 183 (24, [(0, zr 1), (1, zi l), (2, zi (i : Int))], [zi ((m 62 ((wr (i : Int)).toNat)) + l)], m) _ (And.intro (fun a3 => (And.intro (z_b01L rfl) (o3 (Classical.byContradiction a2) a3))) (fun a4 => (o4 (Classical.byContradiction a2) a4)))))))))
theorem zb183_2 (hT : zRules T) {D : Nat} {κ : Option zA → zM → Prop} {m : zM} {l : Int} {i : Nat} {lo : zL} (hlo : z_keep [0, 1, 2] lo = [(0, zr 1), (1, zi l), (2, zi (i : Int))])  (hB : zB m) (h_l : (-13) ≤ l ∧ l ≤ 13) (h_i : i ≤ 12) 
    (k1 : ¬ (i : Int) < (m 59 4) → κ (some (zi 1)) m)
    (k2 : (i : Int) < (m 59 4) → ((m 62 i) + l) < 0 → κ (some (zi 0)) m)
    (k3 : (i : Int) < (m 59 4) → ¬ ((m 62 i) + l) < 0 → T (D + 6) 182 (0, [(0, zr 1), (1, zi (i : Int)), (2, zi l)], [], m) (fun r m1 => T (D + 7) 183 (33, [(0, zr 1), (1, zi l), (2, zi (i : Int))], r.toList ++ [], m1) κ)) :
    T (D + 7) 183 (2, lo, [], m) κ := by
  have hb2 : 0 ≤ (m 59 4) ∧ (m 59 4) ≤ 12 := hB 59 4
  have hb3 : 0 ≤ (m 62 i) ∧ (m 62 i) ≤ 9999 := hB 62 i
  have he0 : wr (i : Int) = (i : Int) := wr_id (by omega) (by omega)
  have he1 : wr (m 59 4) = (m 59 4) := wr_id (by omega) (by omega)
  have he2 : (i : Int).toNat = i := by omega
  have he3 : wr ((m 62 i) + l) = ((m 62 i) + l) := wr_id (by omega) (by omega)
  have key := @zb183_2r T hT D κ m l i lo hlo
  simp only [he0, he1, he2, he3, Int.toNat_natCast] at key
  exact key
    k1
    (fun x0 => by refine ⟨?_, ?_⟩ <;> omega)
    k2
    k3
theorem zb183_33r (hT : zRules T) {D : Nat} {κ : Option zA → zM → Prop} {m : zM} {l : Int} {i : Nat} {v : Int} {lo : zL} (hlo : z_keep [0, 1, 2] lo = [(0, zr 1), (1, zi l), (2, zi (i : Int))]) 
    (o1 : (0 ≤ wr (i : Int) ∧ wr (i : Int) < 12))
    (o2 : wr v = wr (m 63 ((wr (i : Int)).toNat)) → T (D + 7) 183 (2, [(0, zr 1), (1, zi l), (2, zi ((i : Int) + 1))], [], m) κ)
    (o3 : ¬ wr v = wr (m 63 ((wr (i : Int)).toNat)) → κ (some (zi 0)) m) :
    T (D + 7) 183 (33, lo, [zi v], m) κ :=
  zkeep hT hlo (hT.1 [(2, [0, 1, 2])] 6 (D + 7) 183 _ κ (And.intro (o1) (And.intro (fun a1 => (hT.1 [(2, [0, 1, 2])] 6 (D + 7) 183 (47, [(0, zr 1), (1, zi l), (2, zi (i : Int))], [], m) _ (o2 a1))) (fun a2 => (hT.1 [(2, [0, 1, 2])] 6 (D + 7) 183 (45, [(0, zr 1), (1, zi l), (2, zi (i : Int))], [], m) _ (And.intro (z_b01L rfl) (o3 a2)))))))
theorem zb183_33 (hT : zRules T) {D : Nat} {κ : Option zA → zM → Prop} {m : zM} {l : Int} {i : Nat} {v : Int} {lo : zL} (hlo : z_keep [0, 1, 2] lo = [(0, zr 1), (1, zi l), (2, zi (i : Int))])  (hB : zB m) (h_l : (-13) ≤ l ∧ l ≤ 13) (h_i : i ≤ 11) (h_v : 0 ≤ v ∧ v ≤ 99) 
    (k1 : v = (m 63 i) → T (D + 7) 183 (2, [(0, zr 1), (1, zi l), (2, zi ((i : Int) + 1))], [], m) κ)
    (k2 : ¬ v = (m 63 i) → κ (some (zi 0)) m) :
    T (D + 7) 183 (33, lo, [zi v], m) κ := by
  have hb3 : 0 ≤ (m 63 i) ∧ (m 63 i) ≤ 99 := hB 63 i
  have he0 : wr (i : Int) = (i : Int) := wr_id (by omega) (by omega)
  have he1 : (i : Int).toNat = i := by omega
  have he2 : wr v = v := wr_id (by omega) (by omega)
  have he3 : wr (m 63 i) = (m 63 i) := wr_id (by omega) (by omega)
  have key := @zb183_33r T hT D κ m l i v lo hlo
  simp only [he0, he1, he2, he3, Int.toNat_natCast] at key
  exact key
    (by refine ⟨?_, ?_⟩ <;> omega)
    k1
    k2
theorem zb276_0r (hT : zRules T) {D : Nat} {κ : Option zA → zM → Prop} {m : zM} 
    (o1 : T (D + 4) 276 (10, [(0, zr 74), (1, zi 0), (2, zi (-13))], [], (zu m 74 12 0)) κ) :
    T (D + 4) 276 (0, [(0, zr 74)], [], m) κ :=
  hT.1 [(10, [0, 1, 2]), (21, [0, 1, 2, 3, 4])] 6 (D + 4) 276 _ κ (And.intro trivial (hT.1 [(10, [0, 1, 2]), (21, [0, 1, 2, 3, 4])] 6 (D + 4) 276 (9, [(0, zr 74), (1, zi 0)], [zi (-13)], (zu m 74 12 0)) _ (o1)))
theorem zb276_0 (hT : zRules T) {D : Nat} {κ : Option zA → zM → Prop} {m : zM}  (hB : zB m) 
    (k1 : zB (zu m 74 12 0) → T (D + 4) 276 (10, [(0, zr 74), (1, zi 0), (2, zi (-13))], [], (zu m 74 12 0)) κ) :
    T (D + 4) 276 (0, [(0, zr 74)], [], m) κ := by
  exact zb276_0r hT
    (k1  (zB_u hB trivial))
theorem zb276_10r (hT : zRules T) {D : Nat} {κ : Option zA → zM → Prop} {m : zM} {b : Nat} {l : Int} {lo : zL} (hlo : z_keep [0, 1, 2] lo = [(0, zr 74), (1, zi (b : Int)), (2, zi l)]) 
    (o1 : 13 < wr l → κ (some (zi (wr (b : Int)))) m)
    (o2 : ¬ 13 < wr l → T (D + 4) 276 (21, [(0, zr 74), (1, zi (b : Int)), (2, zi l), (3, zi 1), (4, zi 0)], [], m) κ) :
    T (D + 4) 276 (10, lo, [], m) κ :=
  zkeep hT hlo (hT.1 [(10, [0, 1, 2]), (21, [0, 1, 2, 3, 4])] 6 (D + 4) 276 _ κ (And.intro (fun a1 => (o1 a1)) (fun a2 => (hT.1 [(10, [0, 1, 2]), (21, [0, 1, 2, 3, 4])] 6 (D + 4) 276 (19, [(0, zr 74), (1, zi (b : Int)), (2, zi l), (3, zi 1)], [zi 0], m) _ (o2 a2)))))
theorem zb276_10 (hT : zRules T) {D : Nat} {κ : Option zA → zM → Prop} {m : zM} {b : Nat} {l : Int} {lo : zL} (hlo : z_keep [0, 1, 2] lo = [(0, zr 74), (1, zi (b : Int)), (2, zi l)])  (hB : zB m) (h_b : b ≤ 134217727) (h_l : (-13) ≤ l ∧ l ≤ 14) 
    (k1 : 13 < l → κ (some (zi (b : Int))) m)
    (k2 : ¬ 13 < l → T (D + 4) 276 (21, [(0, zr 74), (1, zi (b : Int)), (2, zi l), (3, zi 1), (4, zi 0)], [], m) κ) :
    T (D + 4) 276 (10, lo, [], m) κ := by
  have he0 : wr l = l := wr_id (by omega) (by omega)
  have he1 : wr (b : Int) = (b : Int) := wr_id (by omega) (by omega)
  have key := @zb276_10r T hT D κ m b l lo hlo
  simp only [he0, he1, Int.toNat_natCast] at key
  exact key
    k1
    k2
theorem zb276_21r (hT : zRules T) {D : Nat} {κ : Option zA → zM → Prop} {m : zM} {b : Nat} {l : Int} {s : Int} {i : Nat} {lo : zL} (hlo : z_keep [0, 1, 2, 3, 4] lo = [(0, zr 74), (1, zi (b : Int)), (2, zi l), (3, zi s), (4, zi (i : Int))]) 
    (o1 : ¬ wr (i : Int) < wr (m 74 52) → wr s = 0 → T (D + 4) 276 (10, [(0, zr 74), (1, zi (z_or (b : Int) 0)), (2, zi (l + 1))], [], m) κ)
    (o2 : ¬ wr (i : Int) < wr (m 74 52) → ¬ wr s = 0 → T (D + 4) 276 (10, [(0, zr 74), (1, zi (z_or (b : Int) (z_shl 1 (13 + l)))), (2, zi (l + 1))], [], m) κ)
    (o3 : wr (i : Int) < wr (m 74 52) → wr s = 0 → wr s = 0 → T (D + 4) 276 (10, [(0, zr 74), (1, zi (z_or (b : Int) 0)), (2, zi (l + 1))], [], m) κ)
    (o4 : wr (i : Int) < wr (m 74 52) → wr s = 0 → ¬ wr s = 0 → False)
    (o5 : wr (i : Int) < wr (m 74 52) → ¬ wr s = 0 → (0 ≤ wr ((4 * (i : Int)) + 2) ∧ wr ((4 * (i : Int)) + 2) < 48))
    (o6 : wr (i : Int) < wr (m 74 52) → ¬ wr s = 0 → wr ((m 99 ((wr ((4 * (i : Int)) + 2)).toNat)) + l) < 0 → T (D + 4) 276 (21, [(0, zr 74), (1, zi (b : Int)), (2, zi l), (3, zi 0), (4, zi ((i : Int) + 1))], [], m) κ)
    (o7 : wr (i : Int) < wr (m 74 52) → ¬ wr s = 0 → ¬ wr ((m 99 ((wr ((4 * (i : Int)) + 2)).toNat)) + l) < 0 → (0 ≤ wr (4 * (i : Int)) ∧ wr (4 * (i : Int)) < 48))
    (o8 : wr (i : Int) < wr (m 74 52) → ¬ wr s = 0 → ¬ wr ((m 99 ((wr ((4 * (i : Int)) + 2)).toNat)) + l) < 0 → (0 ≤ wr ((4 * (i : Int)) + 1) ∧ wr ((4 * (i : Int)) + 1) < 48))
    (o9 : wr (i : Int) < wr (m 74 52) → ¬ wr s = 0 → ¬ wr ((m 99 ((wr ((4 * (i : Int)) + 2)).toNat)) + l) < 0 → T (D + 3) 215 (0, [(0, zr 74), (1, zi (m 99 ((wr (4 * (i : Int))).toNat))), (2, zi (m 99 ((wr ((4 * (i : Int)) + 1)).toNat))), (3, zi ((m 99 ((wr ((4 * (i : Int)) + 2)).toNat)) + l))], [], m) (fun r m1 => T (D + 4) 276 (80, [(0, zr 74), (1, zi (b : Int)), (2, zi l), (3, zi s), (4, zi (i : Int)), (5, zi ((m 99 ((wr ((4 * (i : Int)) + 2)).toNat)) + l))], r.toList ++ [], m1) κ)) :
    T (D + 4) 276 (21, lo, [], m) κ :=
  zkeep hT hlo (hT.1 [(10, [0, 1, 2]), (21, [0, 1, 2, 3, 4])] 6 (D + 4) 276 _ κ (And.intro (fun a1 => (hT.1 [(10, [0, 1, 2]), (21, [0, 1, 2, 3, 4])] 6 (D + 4) 276 (108, [(0, zr 74), (1, zi (b : Int)), (2, zi l), (3, zi s), (4, zi (i : Int))], [zi s, zi (b : Int)], m) _ (And.intro (fun a3 => (o1 a1 a3)) (fun a4 => (hT.1 [(10, [0, 1, 2]), (21, [0, 1, 2, 3, 4])] 6 (D + 4) 276 (117, [(0, zr 74), (1, zi (b : Int)), (2, zi l), (3, zi s), (4, zi (i : Int))], [zi (z_shl 1 (13 + l)), zi (b : Int)], m) _ (o2 a1 a4)))))) (fun a2 => (And.intro (fun a5 => (hT.1 [(10, [0, 1, 2]), (21, [0, 1, 2, 3, 4])] 6 (D + 4) 276 (106, [(0, zr 74), (1, zi (b : Int)), (2, zi l), (3, zi s), (4, zi (i : Int))], [], m) _ (And.intro (fun a7 => (hT.1 [(10, [0, 1, 2]), (21, [0, 1, 2, 3, 4])] 6 (D + 4) 276 (123, [(0, zr 74), (1, zi (z_or (b : Int) 0)), (2, zi l), (3, zi s), (4, zi (i : Int))], [], m) _ (o3 (Classical.byContradiction a2) a5 a7))) (fun a8 => (o4 (Classical.byContradiction a2) a5 a8).elim)))) (fun a6 => (hT.1 [(10, [0, 1, 2]), (21, [0, 1, 2, 3, 4])] 6 (D + 4) 276 (34, [(0, zr 74), (1, zi (b : Int)), (2, zi l), (3, zi s), (4, zi (i : Int))], [], m) _ (hT.1 [(10, [0, 1, 2]), (21, [0, 1, 2, 3, 4])] 6 (D + 4) 276 (43, [(0, zr 74), (1, zi (b : Int)), (2, zi l), (3, zi s), (4, zi (i : Int))], [zi 2, zi (4 * (i : Int)), zr 99], m) _ (And.intro (o5 (Classical.byContradiction a2) a6) (hT.1 [(10, [0, 1, 2]), (21, [0, 1, 2, 3, 4])] 6 (D + 4) 276 (51, [(0, zr 74), (1, zi (b : Int)), (2, zi l), (3, zi s), (4, zi (i : Int)), (5, zi ((m 99 ((wr ((4 * (i : Int)) + 2)).toNat)) + l))], [zi ((m 99 ((wr ((4 * (i : Int)) + 2)).toNat)) + l)], m) _ (And.intro (fun a9 => (o6 (Classical.byContradiction a2) a6 a9)) (fun a10 => (hT.1 [(10, [0, 1, 2]), (21, [0, 1, 2, 3, 4])] 6 (D + 4) 276 (62, [(0, zr 74), (1, zi (b : Int)), (2, zi l), (3, zi s), (4, zi (i : Int)), (5, zi ((m 99 ((wr ((4 * (i : Int)) + 2)).toNat)) + l))], [zi (i : Int), zi 4, zr 99, zr 74], m) _ (And.intro (o7 (Classical.byContradiction a2) a6 a10) (hT.1 [(10, [0, 1, 2]), (21, [0, 1, 2, 3, 4])] 6 (D + 4) 276 (71, [(0, zr 74), (1, zi (b : Int)), (2, zi l), (3, zi s), (4, zi (i : Int)), (5, zi ((m 99 ((wr ((4 * (i : Int)) + 2)).toNat)) + l))], [zi (i : Int), zi 4, zr 99, zi (m 99 ((wr (4 * (i : Int))).toNat)), zr 74], m) _ (And.intro (o8 (Classical.byContradiction a2) a6 a10) (o9 (Classical.byContradiction a2) a6 a10))))))))))))))))
theorem zb276_21 (hT : zRules T) {D : Nat} {κ : Option zA → zM → Prop} {m : zM} {b : Nat} {l : Int} {s : Int} {i : Nat} {lo : zL} (hlo : z_keep [0, 1, 2, 3, 4] lo = [(0, zr 74), (1, zi (b : Int)), (2, zi l), (3, zi s), (4, zi (i : Int))])  (hB : zB m) (h_b : b ≤ 134217727) (h_l : (-13) ≤ l ∧ l ≤ 13) (h_s : 0 ≤ s ∧ s ≤ 1) (h_i : i ≤ 12) 
    (k1 : ¬ (i : Int) < (m 74 52) → s = 0 → T (D + 4) 276 (10, [(0, zr 74), (1, zi (z_or (b : Int) 0)), (2, zi (l + 1))], [], m) κ)
    (k2 : ¬ (i : Int) < (m 74 52) → ¬ s = 0 → T (D + 4) 276 (10, [(0, zr 74), (1, zi (z_or (b : Int) (z_shl 1 (13 + l)))), (2, zi (l + 1))], [], m) κ)
    (k3 : (i : Int) < (m 74 52) → s = 0 → T (D + 4) 276 (10, [(0, zr 74), (1, zi (z_or (b : Int) 0)), (2, zi (l + 1))], [], m) κ)
    (k4 : (i : Int) < (m 74 52) → ¬ s = 0 → ((m 99 (4 * i + 2)) + l) < 0 → T (D + 4) 276 (21, [(0, zr 74), (1, zi (b : Int)), (2, zi l), (3, zi 0), (4, zi ((i : Int) + 1))], [], m) κ)
    (k5 : (i : Int) < (m 74 52) → ¬ s = 0 → ¬ ((m 99 (4 * i + 2)) + l) < 0 → T (D + 3) 215 (0, [(0, zr 74), (1, zi (m 99 (4 * i))), (2, zi (m 99 (4 * i + 1))), (3, zi ((m 99 (4 * i + 2)) + l))], [], m) (fun r m1 => T (D + 4) 276 (80, [(0, zr 74), (1, zi (b : Int)), (2, zi l), (3, zi s), (4, zi (i : Int)), (5, zi ((m 99 (4 * i + 2)) + l))], r.toList ++ [], m1) κ)) :
    T (D + 4) 276 (21, lo, [], m) κ := by
  have hb4 : 0 ≤ (m 74 52) ∧ (m 74 52) ≤ 12 := hB 74 52
  have hb5 : (-2147483648) ≤ (z_or (b : Int) 0) ∧ (z_or (b : Int) 0) ≤ 2147483647 := z_orB (b : Int) 0
  have hb6 : 0 ≤ (m 99 (4 * i + 2)) ∧ (m 99 (4 * i + 2)) ≤ 9999 := hB 99 (4 * i + 2)
  have hb7 : 0 ≤ (m 99 (4 * i)) ∧ (m 99 (4 * i)) ≤ 9999 := hB 99 (4 * i)
  have hb8 : 0 ≤ (m 99 (4 * i + 1)) ∧ (m 99 (4 * i + 1)) ≤ 9999 := hB 99 (4 * i + 1)
  have hb9 : (-2147483648) ≤ (z_shl 1 (13 + l)) ∧ (z_shl 1 (13 + l)) ≤ 2147483647 := z_shlB 1 (13 + l)
  have hb10 : (-2147483648) ≤ (z_or (b : Int) (z_shl 1 (13 + l))) ∧ (z_or (b : Int) (z_shl 1 (13 + l))) ≤ 2147483647 := z_orB (b : Int) (z_shl 1 (13 + l))
  have he0 : wr (i : Int) = (i : Int) := wr_id (by omega) (by omega)
  have he1 : wr (m 74 52) = (m 74 52) := wr_id (by omega) (by omega)
  have he2 : wr s = s := wr_id (by omega) (by omega)
  have he3 : wr ((4 * (i : Int)) + 2) = ((4 * (i : Int)) + 2) := wr_id (by omega) (by omega)
  have he4 : ((4 * (i : Int)) + 2).toNat = 4 * i + 2 := by omega
  have he5 : wr ((m 99 (4 * i + 2)) + l) = ((m 99 (4 * i + 2)) + l) := wr_id (by omega) (by omega)
  have he6 : wr (4 * (i : Int)) = (4 * (i : Int)) := wr_id (by omega) (by omega)
  have he7 : (4 * (i : Int)).toNat = 4 * i := by omega
  have he8 : wr ((4 * (i : Int)) + 1) = ((4 * (i : Int)) + 1) := wr_id (by omega) (by omega)
  have he9 : ((4 * (i : Int)) + 1).toNat = 4 * i + 1 := by omega
  have key := @zb276_21r T hT D κ m b l s i lo hlo
  simp only [he0, he1, he2, he3, he4, he5, he6, he7, he8, he9, Int.toNat_natCast] at key
  exact key
    k1
    k2
    (fun x0 x1 x2 => k3 x0 x1)
    (fun x0 x1 x2 => by omega)
    (fun x0 x1 => by refine ⟨?_, ?_⟩ <;> omega)
    k4
    (fun x0 x1 x2 => by refine ⟨?_, ?_⟩ <;> omega)
    (fun x0 x1 x2 => by refine ⟨?_, ?_⟩ <;> omega)
    k5
theorem zb276_80r (hT : zRules T) {D : Nat} {κ : Option zA → zM → Prop} {m : zM} {b : Nat} {l : Int} {i : Nat} {v : Int} {lo : zL} (hlo : z_keep [0, 1, 2, 4] lo = [(0, zr 74), (1, zi (b : Int)), (2, zi l), (4, zi (i : Int))]) 
    (o1 : (0 ≤ wr ((4 * (i : Int)) + 3) ∧ wr ((4 * (i : Int)) + 3) < 48))
    (o2 : ¬ wr v = wr (m 99 ((wr ((4 * (i : Int)) + 3)).toNat)) → T (D + 4) 276 (21, [(0, zr 74), (1, zi (b : Int)), (2, zi l), (3, zi 0), (4, zi ((i : Int) + 1))], [], m) κ)
    (o3 : wr v = wr (m 99 ((wr ((4 * (i : Int)) + 3)).toNat)) → T (D + 4) 276 (21, [(0, zr 74), (1, zi (b : Int)), (2, zi l), (3, zi 1), (4, zi ((i : Int) + 1))], [], m) κ) :
    T (D + 4) 276 (80, lo, [zi v], m) κ :=
  zkeep hT hlo (hT.1 [(10, [0, 1, 2]), (21, [0, 1, 2, 3, 4])] 6 (D + 4) 276 _ κ (hT.1 [(10, [0, 1, 2]), (21, [0, 1, 2, 3, 4])] 6 (D + 4) 276 (89, [(0, zr 74), (1, zi (b : Int)), (2, zi l), (4, zi (i : Int))], [zi 3, zi (4 * (i : Int)), zr 99, zi v], m) _ (And.intro (o1) (And.intro (fun a1 => (hT.1 [(10, [0, 1, 2]), (21, [0, 1, 2, 3, 4])] 6 (D + 4) 276 (103, [(0, zr 74), (1, zi (b : Int)), (2, zi l), (3, zi 0), (4, zi ((i : Int) + 1))], [], m) _ (o2 a1))) (fun a2 => (hT.1 [(10, [0, 1, 2]), (21, [0, 1, 2, 3, 4])] 6 (D + 4) 276 (100, [(0, zr 74), (1, zi (b : Int)), (2, zi l), (3, zi 1), (4, zi (i : Int))], [], m) _ (o3 (Classical.byContradiction a2))))))))
theorem zb276_80 (hT : zRules T) {D : Nat} {κ : Option zA → zM → Prop} {m : zM} {b : Nat} {l : Int} {i : Nat} {v : Int} {lo : zL} (hlo : z_keep [0, 1, 2, 4] lo = [(0, zr 74), (1, zi (b : Int)), (2, zi l), (4, zi (i : Int))])  (hB : zB m) (h_b : b ≤ 134217727) (h_l : (-13) ≤ l ∧ l ≤ 13) (h_i : i ≤ 11) (h_v : 0 ≤ v ∧ v ≤ 99) 
    (k1 : ¬ v = (m 99 (4 * i + 3)) → T (D + 4) 276 (21, [(0, zr 74), (1, zi (b : Int)), (2, zi l), (3, zi 0), (4, zi ((i : Int) + 1))], [], m) κ)
    (k2 : v = (m 99 (4 * i + 3)) → T (D + 4) 276 (21, [(0, zr 74), (1, zi (b : Int)), (2, zi l), (3, zi 1), (4, zi ((i : Int) + 1))], [], m) κ) :
    T (D + 4) 276 (80, lo, [zi v], m) κ := by
  have hb4 : 0 ≤ (m 99 (4 * i + 3)) ∧ (m 99 (4 * i + 3)) ≤ 9999 := hB 99 (4 * i + 3)
  have he0 : wr ((4 * (i : Int)) + 3) = ((4 * (i : Int)) + 3) := wr_id (by omega) (by omega)
  have he1 : ((4 * (i : Int)) + 3).toNat = 4 * i + 3 := by omega
  have he2 : wr v = v := wr_id (by omega) (by omega)
  have he3 : wr (m 99 (4 * i + 3)) = (m 99 (4 * i + 3)) := wr_id (by omega) (by omega)
  have key := @zb276_80r T hT D κ m b l i v lo hlo
  simp only [he0, he1, he2, he3, Int.toNat_natCast] at key
  exact key
    (by refine ⟨?_, ?_⟩ <;> omega)
    k1
    k2
theorem zb152_0r (hT : zRules T) {D : Nat} {κ : Option zA → zM → Prop} {m : zM} {p : Int} 
    (o1 : wr p < 0 → κ (some (zi (-1))) m)
    (o2 : ¬ wr p < 0 → ¬ wr p < wr (m 17 0) → κ (some (zi (-1))) m)
    (o3 : ¬ wr p < 0 → wr p < wr (m 17 0) → T (D + 6) 152 (23, [(0, zr 1), (1, zi p), (2, zi 0), (3, zi (-1)), (4, zi (-1)), (5, zi 1)], [], m) κ) :
    T (D + 6) 152 (0, [(0, zr 1), (1, zi p)], [], m) κ :=
  hT.1 [(23, [0, 1, 2, 3, 4, 5])] 6 (D + 6) 152 _ κ (hT.1 [] 6 (D + 5) 25 _ _ (And.intro (fun a1 => (And.intro (z_b01L rfl) (hT.1 [(23, [0, 1, 2, 3, 4, 5])] 6 (D + 6) 152 _ _ (And.intro (fun a3 => (z_litF a3 rfl).elim) (fun _ => (o1 a1)))))) (fun a2 => (And.intro (fun a4 => (hT.1 [] 6 (D + 5) 25 (16, [(0, zr 17), (1, zi p)], [], m) _ (And.intro (z_b01L rfl) (hT.1 [(23, [0, 1, 2, 3, 4, 5])] 6 (D + 6) 152 _ _ (And.intro (fun a6 => (z_litF a6 rfl).elim) (fun _ => (o2 a2 a4))))))) (fun a5 => (hT.1 [] 6 (D + 5) 25 (12, [(0, zr 17), (1, zi p)], [], m) _ (And.intro (z_b01L rfl) (hT.1 [(23, [0, 1, 2, 3, 4, 5])] 6 (D + 6) 152 _ _ (And.intro (fun _ => (hT.1 [(23, [0, 1, 2, 3, 4, 5])] 6 (D + 6) 152 (18, [(0, zr 1), (1, zi p), (2, zi 0), (3, zi (-1))], [zi (-1)], m) _ (o3 a2 (Classical.byContradiction a5)))) (fun a7 => (a7 (z_litT rfl)).elim))))))))))
theorem zb152_0 (hT : zRules T) {D : Nat} {κ : Option zA → zM → Prop} {m : zM} {p : Int}  (hB : zB m) (h_p : (-2147483648) ≤ p ∧ p ≤ 2147483647) 
    (k1 : p < 0 → κ (some (zi (-1))) m)
    (k2 : ¬ p < 0 → ¬ p < (m 17 0) → κ (some (zi (-1))) m)
    (k3 : ¬ p < 0 → p < (m 17 0) → T (D + 6) 152 (23, [(0, zr 1), (1, zi p), (2, zi 0), (3, zi (-1)), (4, zi (-1)), (5, zi 1)], [], m) κ) :
    T (D + 6) 152 (0, [(0, zr 1), (1, zi p)], [], m) κ := by
  have hb1 : 0 ≤ (m 17 0) ∧ (m 17 0) ≤ 6 := hB 17 0
  have he0 : wr p = p := wr_id (by omega) (by omega)
  have he1 : wr (m 17 0) = (m 17 0) := wr_id (by omega) (by omega)
  have key := @zb152_0r T hT D κ m p
  simp only [he0, he1, Int.toNat_natCast] at key
  exact key
    k1
    k2
    k3
theorem zb152_23r (hT : zRules T) {D : Nat} {κ : Option zA → zM → Prop} {m : zM} {p : Nat} {c : Nat} {a : Int} {z : Int} {h : Nat} {lo : zL} (hlo : z_keep [0, 1, 2, 3, 4, 5] lo = [(0, zr 1), (1, zi (p : Int)), (2, zi (c : Int)), (3, zi a), (4, zi z), (5, zi (h : Int))]) 
    (o1 : 99 < wr (h : Int) → κ (some (zi (wr (c : Int)))) (zu (zu (zu m 72 1 2) 73 0 a) 73 1 z))
    (o2 : ¬ 99 < wr (h : Int) → T (D + 5) 184 (0, [(0, zr 1), (1, zi (p : Int)), (2, zi (h : Int))], [], m) (fun r m1 => T (D + 6) 152 (37, [(0, zr 1), (1, zi (p : Int)), (2, zi (c : Int)), (3, zi a), (4, zi z), (5, zi (h : Int))], r.toList ++ [], m1) κ)) :
    T (D + 6) 152 (23, lo, [], m) κ :=
  zkeep hT hlo (hT.1 [(23, [0, 1, 2, 3, 4, 5])] 6 (D + 6) 152 _ κ (And.intro (fun a1 => (hT.1 [(23, [0, 1, 2, 3, 4, 5])] 6 (D + 6) 152 (70, [(0, zr 1), (1, zi (p : Int)), (2, zi (c : Int)), (3, zi a), (4, zi z), (5, zi (h : Int))], [zi a, zr 72], m) _ (hT.1 [] 6 (D + 5) 46 _ _ (And.intro trivial (hT.1 [] 6 (D + 5) 46 (10, [(0, zr 72), (1, zi a), (2, zi z)], [zi 0, zr 73], (zu m 72 1 2)) _ (And.intro (And.intro (z_ixL rfl) trivial) (hT.1 [] 6 (D + 5) 46 (18, [(0, zr 72), (1, zi a), (2, zi z)], [zi z, zi 1, zr 73], (zu (zu m 72 1 2) 73 0 a)) _ (And.intro (And.intro (z_ixL rfl) trivial) (hT.1 [(23, [0, 1, 2, 3, 4, 5])] 6 (D + 6) 152 _ _ (o1 a1)))))))))) (fun a2 => (hT.1 [(23, [0, 1, 2, 3, 4, 5])] 6 (D + 6) 152 (34, [(0, zr 1), (1, zi (p : Int)), (2, zi (c : Int)), (3, zi a), (4, zi z), (5, zi (h : Int))], [zi (h : Int), zi (p : Int), zr 1], m) _ (o2 a2)))))
theorem zb152_23 (hT : zRules T) {D : Nat} {κ : Option zA → zM → Prop} {m : zM} {p : Nat} {c : Nat} {a : Int} {z : Int} {h : Nat} {lo : zL} (hlo : z_keep [0, 1, 2, 3, 4, 5] lo = [(0, zr 1), (1, zi (p : Int)), (2, zi (c : Int)), (3, zi a), (4, zi z), (5, zi (h : Int))])  (hB : zB m) (h_p : p ≤ 5) (h_c : c ≤ 99) (h_a : (-1) ≤ a ∧ a ≤ 99) (h_z : (-1) ≤ z ∧ z ≤ 99) (h_h : h ≤ 100) 
    (k1 : 99 < (h : Int) → zB (zu (zu (zu m 72 1 2) 73 0 a) 73 1 z) → κ (some (zi (c : Int))) (zu (zu (zu m 72 1 2) 73 0 a) 73 1 z))
    (k2 : ¬ 99 < (h : Int) → T (D + 5) 184 (0, [(0, zr 1), (1, zi (p : Int)), (2, zi (h : Int))], [], m) (fun r m1 => T (D + 6) 152 (37, [(0, zr 1), (1, zi (p : Int)), (2, zi (c : Int)), (3, zi a), (4, zi z), (5, zi (h : Int))], r.toList ++ [], m1) κ)) :
    T (D + 6) 152 (23, lo, [], m) κ := by
  have he0 : wr (h : Int) = (h : Int) := wr_id (by omega) (by omega)
  have he1 : wr (c : Int) = (c : Int) := wr_id (by omega) (by omega)
  have key := @zb152_23r T hT D κ m p c a z h lo hlo
  simp only [he0, he1, Int.toNat_natCast] at key
  exact key
    (fun x0 => k1 x0 (zB_u (zB_u (zB_u hB (show 0 ≤ 2 ∧ 2 ≤ 26 from ⟨by omega, by omega⟩)) trivial) trivial))
    k2
theorem zb152_37r (hT : zRules T) {D : Nat} {κ : Option zA → zM → Prop} {m : zM} {p : Nat} {c : Nat} {a : Int} {z : Int} {h : Nat} {v : Int} {lo : zL} (hlo : z_keep [0, 1, 2, 3, 4, 5] lo = [(0, zr 1), (1, zi (p : Int)), (2, zi (c : Int)), (3, zi a), (4, zi z), (5, zi (h : Int))]) 
    (o1 : wr v = 0 → T (D + 6) 152 (23, [(0, zr 1), (1, zi (p : Int)), (2, zi (c : Int)), (3, zi a), (4, zi z), (5, zi ((h : Int) + 1))], [], m) κ)
    (o2 : ¬ wr v = 0 → ¬ wr a = (-1) → T (D + 6) 152 (23, [(0, zr 1), (1, zi (p : Int)), (2, zi ((c : Int) + 1)), (3, zi a), (4, zi (h : Int)), (5, zi ((h : Int) + 1))], [], m) κ)
    (o3 : ¬ wr v = 0 → wr a = (-1) → T (D + 6) 152 (23, [(0, zr 1), (1, zi (p : Int)), (2, zi ((c : Int) + 1)), (3, zi (h : Int)), (4, zi (h : Int)), (5, zi ((h : Int) + 1))], [], m) κ) :
    T (D + 6) 152 (37, lo, [zi v], m) κ :=
  zkeep hT hlo (hT.1 [(23, [0, 1, 2, 3, 4, 5])] 6 (D + 6) 152 _ κ (And.intro (fun a1 => (o1 a1)) (fun a2 => (And.intro (fun a3 => (hT.1 [(23, [0, 1, 2, 3, 4, 5])] 6 (D + 6) 152 (54, [(0, zr 1), (1, zi (p : Int)), (2, zi ((c : Int) + 1)), (3, zi a), (4, zi z), (5, zi (h : Int))], [zi a], m) _ (o2 a2 a3))) (fun a4 => (hT.1 [(23, [0, 1, 2, 3, 4, 5])] 6 (D + 6) 152 (50, [(0, zr 1), (1, zi (p : Int)), (2, zi ((c : Int) + 1)), (3, zi a), (4, zi z), (5, zi (h : Int))], [zi (h : Int)], m) _ (o3 a2 (Classical.byContradiction a4))))))))
theorem zb152_37 (hT : zRules T) {D : Nat} {κ : Option zA → zM → Prop} {m : zM} {p : Nat} {c : Nat} {a : Int} {z : Int} {h : Nat} {v : Int} {lo : zL} (hlo : z_keep [0, 1, 2, 3, 4, 5] lo = [(0, zr 1), (1, zi (p : Int)), (2, zi (c : Int)), (3, zi a), (4, zi z), (5, zi (h : Int))])  (hB : zB m) (h_p : p ≤ 5) (h_c : c ≤ 99) (h_a : (-1) ≤ a ∧ a ≤ 99) (h_z : (-1) ≤ z ∧ z ≤ 99) (h_h : h ≤ 99) (h_v : 0 ≤ v ∧ v ≤ 1) 
    (k1 : v = 0 → T (D + 6) 152 (23, [(0, zr 1), (1, zi (p : Int)), (2, zi (c : Int)), (3, zi a), (4, zi z), (5, zi ((h : Int) + 1))], [], m) κ)
    (k2 : ¬ v = 0 → ¬ a = (-1) → T (D + 6) 152 (23, [(0, zr 1), (1, zi (p : Int)), (2, zi ((c : Int) + 1)), (3, zi a), (4, zi (h : Int)), (5, zi ((h : Int) + 1))], [], m) κ)
    (k3 : ¬ v = 0 → a = (-1) → T (D + 6) 152 (23, [(0, zr 1), (1, zi (p : Int)), (2, zi ((c : Int) + 1)), (3, zi (h : Int)), (4, zi (h : Int)), (5, zi ((h : Int) + 1))], [], m) κ) :
    T (D + 6) 152 (37, lo, [zi v], m) κ := by
  have he0 : wr v = v := wr_id (by omega) (by omega)
  have he1 : wr a = a := wr_id (by omega) (by omega)
  have key := @zb152_37r T hT D κ m p c a z h v lo hlo
  simp only [he0, he1, Int.toNat_natCast] at key
  exact key
    k1
    k2
    k3
theorem zb184_0r (hT : zRules T) {D : Nat} {κ : Option zA → zM → Prop} {m : zM} {p : Nat} {h : Nat} 
    (o1 : T (D + 5) 184 (2, [(0, zr 1), (1, zi (p : Int)), (2, zi (h : Int)), (3, zi 0)], [], m) κ) :
    T (D + 5) 184 (0, [(0, zr 1), (1, zi (p : Int)), (2, zi (h : Int))], [], m) κ :=
  hT.1 [(2, [0, 1, 2, 3])] 6 (D + 5) 184 _ κ (o1)
theorem zb184_0 (hT : zRules T) {D : Nat} {κ : Option zA → zM → Prop} {m : zM} {p : Nat} {h : Nat}  (hB : zB m) (h_p : p ≤ 5) (h_h : h ≤ 99) 
    (k1 : T (D + 5) 184 (2, [(0, zr 1), (1, zi (p : Int)), (2, zi (h : Int)), (3, zi 0)], [], m) κ) :
    T (D + 5) 184 (0, [(0, zr 1), (1, zi (p : Int)), (2, zi (h : Int))], [], m) κ := by
  exact zb184_0r hT
    k1
theorem zb184_2r (hT : zRules T) {D : Nat} {κ : Option zA → zM → Prop} {m : zM} {p : Nat} {h : Nat} {i : Nat} {lo : zL} (hlo : z_keep [0, 1, 2, 3] lo = [(0, zr 1), (1, zi (p : Int)), (2, zi (h : Int)), (3, zi (i : Int))]) 
    (o1 : ¬ wr (i : Int) < wr (m 59 4) → κ (some (zi 1)) m)
    (o2 : wr (i : Int) < wr (m 59 4) → (0 ≤ wr (i : Int) ∧ wr (i : Int) < 12))
    (o3 : wr (i : Int) < wr (m 59 4) → ¬ wr (m 60 ((wr (i : Int)).toNat)) = wr (p : Int) → T (D + 5) 184 (2, [(0, zr 1), (1, zi (p : Int)), (2, zi (h : Int)), (3, zi ((i : Int) + 1))], [], m) κ)
    (o4 : wr (i : Int) < wr (m 59 4) → wr (m 60 ((wr (i : Int)).toNat)) = wr (p : Int) → (0 ≤ wr (i : Int) ∧ wr (i : Int) < 12))
    (o5 : wr (i : Int) < wr (m 59 4) → wr (m 60 ((wr (i : Int)).toNat)) = wr (p : Int) → (0 ≤ wr (i : Int) ∧ wr (i : Int) < 12))
    (o6 : wr (i : Int) < wr (m 59 4) → wr (m 60 ((wr (i : Int)).toNat)) = wr (p : Int) → T (D + 4) 170 (0, [(0, zr 1), (1, zi (h : Int)), (2, zi (p : Int)), (3, zi (m 61 ((wr (i : Int)).toNat))), (4, zi (m 62 ((wr (i : Int)).toNat)))], [], m) (fun r m1 => T (D + 5) 184 (50, [(0, zr 1), (1, zi (p : Int)), (2, zi (h : Int)), (3, zi (i : Int))], r.toList ++ [], m1) κ)) :
    T (D + 5) 184 (2, lo, [], m) κ :=
  zkeep hT hlo (hT.1 [(2, [0, 1, 2, 3])] 6 (D + 5) 184 _ κ (And.intro (fun a1 => (hT.1 [(2, [0, 1, 2, 3])] 6 (D + 5) 184 (71, [(0, zr 1), (1, zi (p : Int)), (2, zi (h : Int)), (3, zi (i : Int))], [zi 1], m) _ (And.intro (z_b01L rfl) (o1 a1)))) (fun a2 => (hT.1 [(2, [0, 1, 2, 3])] 6 (D + 5) 184 (14, [(0, zr 1), (1, zi (p : Int)), (2, zi (h : Int)), (3, zi (i : Int))], [zr 1], m) _ (And.intro (o2 (Classical.byContradiction a2)) (And.intro (fun a3 => (hT.1 [(2, [0, 1, 2, 3])] 6 (D + 5) 184 (64, [(0, zr 1), (1, zi (p : Int)), (2, zi (h : Int)), (3, zi (i : Int))], [], m) _ (o3 (Classical.byContradiction a2) a3))) (fun a4 => (hT.1 [(2, [0, 1, 2, 3])] 6 (D + 5) 184 (26, [(0, zr 1), (1, zi (p : Int)), (2, zi (h : Int)), (3, zi (i : Int))], [], m) _ (hT.1 [(2, [0, 1, 2, 3])] 6 (D + 5) 184 (36, [(0, zr 1), (1, zi (p : Int)), (2, zi (h : Int)), (3, zi (i : Int))], [zr 61, zi (p : Int), zi (h : Int), zr 1], m) _ (And.intro (o4 (Classical.byContradiction a2) (Classical.byContradiction a4)) (hT.1 [(2, [0, 1, 2, 3])] 6 (D + 5) 184 (46, [(0, zr 1), (1, zi (p : Int)), (2, zi (h : Int)), (3, zi (i : Int))], [zi (i : Int), zr 62, zi (m 61 ((wr (i : Int)).toNat)), zi (p : Int), zi (h : Int), zr 1], m) _ (And.intro (o5 (Classical.byContradiction a2) (Classical.byContradiction a4)) (o6 (Classical.byContradiction a2) (Classical.byContradiction a4))))))))))))))
theorem zb184_2 (hT : zRules T) {D : Nat} {κ : Option zA → zM → Prop} {m : zM} {p : Nat} {h : Nat} {i : Nat} {lo : zL} (hlo : z_keep [0, 1, 2, 3] lo = [(0, zr 1), (1, zi (p : Int)), (2, zi (h : Int)), (3, zi (i : Int))])  (hB : zB m) (h_p : p ≤ 5) (h_h : h ≤ 99) (h_i : i ≤ 12) 
    (k1 : ¬ (i : Int) < (m 59 4) → κ (some (zi 1)) m)
    (k2 : (i : Int) < (m 59 4) → ¬ (m 60 i) = (p : Int) → T (D + 5) 184 (2, [(0, zr 1), (1, zi (p : Int)), (2, zi (h : Int)), (3, zi ((i : Int) + 1))], [], m) κ)
    (k3 : (i : Int) < (m 59 4) → (m 60 i) = (p : Int) → T (D + 4) 170 (0, [(0, zr 1), (1, zi (h : Int)), (2, zi (p : Int)), (3, zi (m 61 i)), (4, zi (m 62 i))], [], m) (fun r m1 => T (D + 5) 184 (50, [(0, zr 1), (1, zi (p : Int)), (2, zi (h : Int)), (3, zi (i : Int))], r.toList ++ [], m1) κ)) :
    T (D + 5) 184 (2, lo, [], m) κ := by
  have hb3 : 0 ≤ (m 59 4) ∧ (m 59 4) ≤ 12 := hB 59 4
  have hb4 : 0 ≤ (m 60 i) ∧ (m 60 i) ≤ 5 := hB 60 i
  have hb5 : 0 ≤ (m 61 i) ∧ (m 61 i) ≤ 3 := hB 61 i
  have hb6 : 0 ≤ (m 62 i) ∧ (m 62 i) ≤ 9999 := hB 62 i
  have he0 : wr (i : Int) = (i : Int) := wr_id (by omega) (by omega)
  have he1 : wr (m 59 4) = (m 59 4) := wr_id (by omega) (by omega)
  have he2 : (i : Int).toNat = i := by omega
  have he3 : wr (m 60 i) = (m 60 i) := wr_id (by omega) (by omega)
  have he4 : wr (p : Int) = (p : Int) := wr_id (by omega) (by omega)
  have key := @zb184_2r T hT D κ m p h i lo hlo
  simp only [he0, he1, he2, he3, he4, Int.toNat_natCast] at key
  exact key
    k1
    (fun x0 => by refine ⟨?_, ?_⟩ <;> omega)
    k2
    (fun x0 x1 => by refine ⟨?_, ?_⟩ <;> omega)
    (fun x0 x1 => by refine ⟨?_, ?_⟩ <;> omega)
    k3
theorem zb184_50r (hT : zRules T) {D : Nat} {κ : Option zA → zM → Prop} {m : zM} {p : Nat} {h : Nat} {i : Nat} {v : Int} {lo : zL} (hlo : z_keep [0, 1, 2, 3] lo = [(0, zr 1), (1, zi (p : Int)), (2, zi (h : Int)), (3, zi (i : Int))]) 
    (o1 : (0 ≤ wr (i : Int) ∧ wr (i : Int) < 12))
    (o2 : wr v = wr (m 63 ((wr (i : Int)).toNat)) → T (D + 5) 184 (2, [(0, zr 1), (1, zi (p : Int)), (2, zi (h : Int)), (3, zi ((i : Int) + 1))], [], m) κ)
    (o3 : ¬ wr v = wr (m 63 ((wr (i : Int)).toNat)) → κ (some (zi 0)) m) :
    T (D + 5) 184 (50, lo, [zi v], m) κ :=
  zkeep hT hlo (hT.1 [(2, [0, 1, 2, 3])] 6 (D + 5) 184 _ κ (And.intro (o1) (And.intro (fun a1 => (hT.1 [(2, [0, 1, 2, 3])] 6 (D + 5) 184 (64, [(0, zr 1), (1, zi (p : Int)), (2, zi (h : Int)), (3, zi (i : Int))], [], m) _ (o2 a1))) (fun a2 => (hT.1 [(2, [0, 1, 2, 3])] 6 (D + 5) 184 (62, [(0, zr 1), (1, zi (p : Int)), (2, zi (h : Int)), (3, zi (i : Int))], [], m) _ (And.intro (z_b01L rfl) (o3 a2)))))))
theorem zb184_50 (hT : zRules T) {D : Nat} {κ : Option zA → zM → Prop} {m : zM} {p : Nat} {h : Nat} {i : Nat} {v : Int} {lo : zL} (hlo : z_keep [0, 1, 2, 3] lo = [(0, zr 1), (1, zi (p : Int)), (2, zi (h : Int)), (3, zi (i : Int))])  (hB : zB m) (h_p : p ≤ 5) (h_h : h ≤ 99) (h_i : i ≤ 11) (h_v : 0 ≤ v ∧ v ≤ 99) 
    (k1 : v = (m 63 i) → T (D + 5) 184 (2, [(0, zr 1), (1, zi (p : Int)), (2, zi (h : Int)), (3, zi ((i : Int) + 1))], [], m) κ)
    (k2 : ¬ v = (m 63 i) → κ (some (zi 0)) m) :
    T (D + 5) 184 (50, lo, [zi v], m) κ := by
  have hb4 : 0 ≤ (m 63 i) ∧ (m 63 i) ≤ 99 := hB 63 i
  have he0 : wr (i : Int) = (i : Int) := wr_id (by omega) (by omega)
  have he1 : (i : Int).toNat = i := by omega
  have he2 : wr v = v := wr_id (by omega) (by omega)
  have he3 : wr (m 63 i) = (m 63 i) := wr_id (by omega) (by omega)
  have key := @zb184_50r T hT D κ m p h i v lo hlo
  simp only [he0, he1, he2, he3, Int.toNat_natCast] at key
  exact key
    (by refine ⟨?_, ?_⟩ <;> omega)
    k1
    k2
theorem zb277_0r (hT : zRules T) {D : Nat} {κ : Option zA → zM → Prop} {m : zM} {p : Int} 
    (o1 : wr p < 0 → κ (some (zi (-1))) (zu m 74 12 0))
    (o2 : ¬ wr p < 0 → wr ((m 74 4) - 1) < wr p → κ (some (zi (-1))) (zu m 74 12 0))
    (o3 : ¬ wr p < 0 → ¬ wr ((m 74 4) - 1) < wr p → T (D + 3) 277 (25, [(0, zr 74), (1, zi p), (2, zi 0), (3, zi (-1)), (4, zi (-1)), (5, zi 1)], [], (zu m 74 12 0)) κ) :
    T (D + 3) 277 (0, [(0, zr 74), (1, zi p)], [], m) κ :=
  hT.1 [(25, [0, 1, 2, 3, 4, 5]), (38, [0, 1, 2, 3, 4, 5, 6, 7])] 6 (D + 3) 277 _ κ (And.intro trivial (hT.1 [] 6 (D + 2) 190 _ _ (hT.1 [] 6 (D + 2) 190 (8, [(0, zr 74), (1, zi p)], [zi ((m 74 4) - 1), zi 0, zi p], (zu m 74 12 0)) _ (hT.1 [] 6 (D + 1) 186 _ _ (And.intro (fun a1 => (And.intro (z_b01L rfl) (hT.1 [] 6 (D + 2) 190 _ _ (And.intro (z_b01L rfl) (hT.1 [(25, [0, 1, 2, 3, 4, 5]), (38, [0, 1, 2, 3, 4, 5, 6, 7])] 6 (D + 3) 277 _ _ (And.intro (fun a3 => (z_litF a3 rfl).elim) (fun _ => (o1 a1)))))))) (fun a2 => (And.intro (fun a4 => (hT.1 [] 6 (D + 1) 186 (14, [(0, zi p), (1, zi 0), (2, zi ((m 74 4) - 1))], [], (zu m 74 12 0)) _ (And.intro (z_b01L rfl) (hT.1 [] 6 (D + 2) 190 _ _ (And.intro (z_b01L rfl) (hT.1 [(25, [0, 1, 2, 3, 4, 5]), (38, [0, 1, 2, 3, 4, 5, 6, 7])] 6 (D + 3) 277 _ _ (And.intro (fun a6 => (z_litF a6 rfl).elim) (fun _ => (o2 a2 a4))))))))) (fun a5 => (hT.1 [] 6 (D + 1) 186 (10, [(0, zi p), (1, zi 0), (2, zi ((m 74 4) - 1))], [], (zu m 74 12 0)) _ (And.intro (z_b01L rfl) (hT.1 [] 6 (D + 2) 190 _ _ (And.intro (z_b01L rfl) (hT.1 [(25, [0, 1, 2, 3, 4, 5]), (38, [0, 1, 2, 3, 4, 5, 6, 7])] 6 (D + 3) 277 _ _ (And.intro (fun _ => (hT.1 [(25, [0, 1, 2, 3, 4, 5]), (38, [0, 1, 2, 3, 4, 5, 6, 7])] 6 (D + 3) 277 (20, [(0, zr 74), (1, zi p), (2, zi 0), (3, zi (-1))], [zi (-1)], (zu m 74 12 0)) _ (o3 a2 a5))) (fun a7 => (a7 (z_litT rfl)).elim)))))))))))))))
theorem zb277_0 (hT : zRules T) {D : Nat} {κ : Option zA → zM → Prop} {m : zM} {p : Int}  (hB : zB m) (h_p : (-2147483648) ≤ p ∧ p ≤ 2147483647) 
    (k1 : p < 0 → zB (zu m 74 12 0) → κ (some (zi (-1))) (zu m 74 12 0))
    (k2 : ¬ p < 0 → ((m 74 4) - 1) < p → zB (zu m 74 12 0) → κ (some (zi (-1))) (zu m 74 12 0))
    (k3 : ¬ p < 0 → ¬ ((m 74 4) - 1) < p → zB (zu m 74 12 0) → T (D + 3) 277 (25, [(0, zr 74), (1, zi p), (2, zi 0), (3, zi (-1)), (4, zi (-1)), (5, zi 1)], [], (zu m 74 12 0)) κ) :
    T (D + 3) 277 (0, [(0, zr 74), (1, zi p)], [], m) κ := by
  have hb1 : 0 ≤ (m 74 4) ∧ (m 74 4) ≤ 6 := hB 74 4
  have he0 : wr p = p := wr_id (by omega) (by omega)
  have he1 : wr ((m 74 4) - 1) = ((m 74 4) - 1) := wr_id (by omega) (by omega)
  have key := @zb277_0r T hT D κ m p
  simp only [he0, he1, Int.toNat_natCast] at key
  exact key
    (fun x0 => k1 x0 (zB_u hB trivial))
    (fun x0 x1 => k2 x0 x1 (zB_u hB trivial))
    (fun x0 x1 => k3 x0 x1 (zB_u hB trivial))
theorem zb277_25r (hT : zRules T) {D : Nat} {κ : Option zA → zM → Prop} {m : zM} {p : Nat} {c : Nat} {a : Int} {z : Int} {h : Nat} {lo : zL} (hlo : z_keep [0, 1, 2, 3, 4, 5] lo = [(0, zr 74), (1, zi (p : Int)), (2, zi (c : Int)), (3, zi a), (4, zi z), (5, zi (h : Int))]) 
    (o1 : 99 < wr (h : Int) → κ (some (zi (wr (c : Int)))) (zu (zu (zu (zu (zu m 74 11 0) 81 0 a) 74 11 1) 81 1 z) 74 11 2))
    (o2 : ¬ 99 < wr (h : Int) → T (D + 3) 277 (38, [(0, zr 74), (1, zi (p : Int)), (2, zi (c : Int)), (3, zi a), (4, zi z), (5, zi (h : Int)), (6, zi 1), (7, zi 0)], [], m) κ) :
    T (D + 3) 277 (25, lo, [], m) κ :=
  zkeep hT hlo (hT.1 [(25, [0, 1, 2, 3, 4, 5]), (38, [0, 1, 2, 3, 4, 5, 6, 7])] 6 (D + 3) 277 _ κ (And.intro (fun a1 => (And.intro trivial (hT.1 [(25, [0, 1, 2, 3, 4, 5]), (38, [0, 1, 2, 3, 4, 5, 6, 7])] 6 (D + 3) 277 (154, [(0, zr 74), (1, zi (p : Int)), (2, zi (c : Int)), (3, zi a), (4, zi z), (5, zi (h : Int))], [], (zu m 74 11 0)) _ (hT.1 [] 6 (D + 2) 189 _ _ (And.intro (And.intro (z_ixL rfl) trivial) (hT.1 [] 6 (D + 2) 189 (10, [(0, zr 74), (1, zi a)], [], (zu (zu m 74 11 0) 81 0 a)) _ (And.intro trivial (hT.1 [] 6 (D + 2) 189 (20, [(0, zr 74), (1, zi a)], [], (zu (zu (zu m 74 11 0) 81 0 a) 74 11 1)) _ (hT.1 [(25, [0, 1, 2, 3, 4, 5]), (38, [0, 1, 2, 3, 4, 5, 6, 7])] 6 (D + 3) 277 _ _ (hT.1 [] 6 (D + 2) 189 _ _ (And.intro (And.intro (z_ixL rfl) trivial) (hT.1 [] 6 (D + 2) 189 (10, [(0, zr 74), (1, zi z)], [], (zu (zu (zu (zu m 74 11 0) 81 0 a) 74 11 1) 81 1 z)) _ (And.intro trivial (hT.1 [] 6 (D + 2) 189 (20, [(0, zr 74), (1, zi z)], [], (zu (zu (zu (zu (zu m 74 11 0) 81 0 a) 74 11 1) 81 1 z) 74 11 2)) _ (hT.1 [(25, [0, 1, 2, 3, 4, 5]), (38, [0, 1, 2, 3, 4, 5, 6, 7])] 6 (D + 3) 277 _ _ (o1 a1)))))))))))))))) (fun a2 => (hT.1 [(25, [0, 1, 2, 3, 4, 5]), (38, [0, 1, 2, 3, 4, 5, 6, 7])] 6 (D + 3) 277 (36, [(0, zr 74), (1, zi (p : Int)), (2, zi (c : Int)), (3, zi a), (4, zi z), (5, zi (h : Int)), (6, zi 1)], [zi 0], m) _ (o2 a2)))))
theorem zb277_25 (hT : zRules T) {D : Nat} {κ : Option zA → zM → Prop} {m : zM} {p : Nat} {c : Nat} {a : Int} {z : Int} {h : Nat} {lo : zL} (hlo : z_keep [0, 1, 2, 3, 4, 5] lo = [(0, zr 74), (1, zi (p : Int)), (2, zi (c : Int)), (3, zi a), (4, zi z), (5, zi (h : Int))])  (hB : zB m) (h_p : p ≤ 5) (h_c : c ≤ 99) (h_a : (-1) ≤ a ∧ a ≤ 99) (h_z : (-1) ≤ z ∧ z ≤ 99) (h_h : h ≤ 100) 
    (k1 : 99 < (h : Int) → zB (zu (zu (zu (zu (zu m 74 11 0) 81 0 a) 74 11 1) 81 1 z) 74 11 2) → κ (some (zi (c : Int))) (zu (zu (zu (zu (zu m 74 11 0) 81 0 a) 74 11 1) 81 1 z) 74 11 2))
    (k2 : ¬ 99 < (h : Int) → T (D + 3) 277 (38, [(0, zr 74), (1, zi (p : Int)), (2, zi (c : Int)), (3, zi a), (4, zi z), (5, zi (h : Int)), (6, zi 1), (7, zi 0)], [], m) κ) :
    T (D + 3) 277 (25, lo, [], m) κ := by
  have he0 : wr (h : Int) = (h : Int) := wr_id (by omega) (by omega)
  have he1 : wr (c : Int) = (c : Int) := wr_id (by omega) (by omega)
  have key := @zb277_25r T hT D κ m p c a z h lo hlo
  simp only [he0, he1, Int.toNat_natCast] at key
  exact key
    (fun x0 => k1 x0 (zB_u (zB_u (zB_u (zB_u (zB_u hB (show 0 ≤ 0 ∧ 0 ≤ 32 from ⟨by omega, by omega⟩)) trivial) (show 0 ≤ 1 ∧ 1 ≤ 32 from ⟨by omega, by omega⟩)) trivial) (show 0 ≤ 2 ∧ 2 ≤ 32 from ⟨by omega, by omega⟩)))
    k2
theorem zb277_38r (hT : zRules T) {D : Nat} {κ : Option zA → zM → Prop} {m : zM} {p : Nat} {c : Nat} {a : Int} {z : Int} {h : Nat} {s : Int} {i : Nat} {lo : zL} (hlo : z_keep [0, 1, 2, 3, 4, 5, 6, 7] lo = [(0, zr 74), (1, zi (p : Int)), (2, zi (c : Int)), (3, zi a), (4, zi z), (5, zi (h : Int)), (6, zi s), (7, zi (i : Int))]) 
    (o1 : ¬ wr (i : Int) < wr (m 74 52) → ¬ wr s = 0 → ¬ wr (c : Int) = 0 → T (D + 3) 277 (25, [(0, zr 74), (1, zi (p : Int)), (2, zi ((c : Int) + 1)), (3, zi a), (4, zi (h : Int)), (5, zi ((h : Int) + 1))], [], m) κ)
    (o2 : ¬ wr (i : Int) < wr (m 74 52) → ¬ wr s = 0 → wr (c : Int) = 0 → T (D + 3) 277 (25, [(0, zr 74), (1, zi (p : Int)), (2, zi ((c : Int) + 1)), (3, zi (h : Int)), (4, zi (h : Int)), (5, zi ((h : Int) + 1))], [], m) κ)
    (o3 : ¬ wr (i : Int) < wr (m 74 52) → wr s = 0 → T (D + 3) 277 (25, [(0, zr 74), (1, zi (p : Int)), (2, zi (c : Int)), (3, zi a), (4, zi z), (5, zi ((h : Int) + 1))], [], m) κ)
    (o4 : wr (i : Int) < wr (m 74 52) → wr s = 0 → ¬ wr s = 0 → False)
    (o5 : wr (i : Int) < wr (m 74 52) → wr s = 0 → wr s = 0 → T (D + 3) 277 (25, [(0, zr 74), (1, zi (p : Int)), (2, zi (c : Int)), (3, zi a), (4, zi z), (5, zi ((h : Int) + 1))], [], m) κ)
    (o6 : wr (i : Int) < wr (m 74 52) → ¬ wr s = 0 → (0 ≤ wr (4 * (i : Int)) ∧ wr (4 * (i : Int)) < 48))
    (o7 : wr (i : Int) < wr (m 74 52) → ¬ wr s = 0 → ¬ wr (m 99 ((wr (4 * (i : Int))).toNat)) = wr (p : Int) → T (D + 3) 277 (38, [(0, zr 74), (1, zi (p : Int)), (2, zi (c : Int)), (3, zi a), (4, zi z), (5, zi (h : Int)), (6, zi 1), (7, zi ((i : Int) + 1))], [], m) κ)
    (o8 : wr (i : Int) < wr (m 74 52) → ¬ wr s = 0 → wr (m 99 ((wr (4 * (i : Int))).toNat)) = wr (p : Int) → (0 ≤ wr ((4 * (i : Int)) + 1) ∧ wr ((4 * (i : Int)) + 1) < 48))
    (o9 : wr (i : Int) < wr (m 74 52) → ¬ wr s = 0 → wr (m 99 ((wr (4 * (i : Int))).toNat)) = wr (p : Int) → (0 ≤ wr ((4 * (i : Int)) + 2) ∧ wr ((4 * (i : Int)) + 2) < 48))
    (o10 : wr (i : Int) < wr (m 74 52) → ¬ wr s = 0 → wr (m 99 ((wr (4 * (i : Int))).toNat)) = wr (p : Int) → T (D + 2) 214 (0, [(0, zr 74), (1, zi (p : Int)), (2, zi (h : Int)), (3, zi (m 99 ((wr ((4 * (i : Int)) + 1)).toNat))), (4, zi (m 99 ((wr ((4 * (i : Int)) + 2)).toNat)))], [], m) (fun r m1 => T (D + 3) 277 (94, [(0, zr 74), (1, zi (p : Int)), (2, zi (c : Int)), (3, zi a), (4, zi z), (5, zi (h : Int)), (6, zi s), (7, zi (i : Int))], r.toList ++ [], m1) κ)) :
    T (D + 3) 277 (38, lo, [], m) κ :=
  zkeep hT hlo (hT.1 [(25, [0, 1, 2, 3, 4, 5]), (38, [0, 1, 2, 3, 4, 5, 6, 7])] 6 (D + 3) 277 _ κ (And.intro (fun a1 => (And.intro (fun a3 => (hT.1 [(25, [0, 1, 2, 3, 4, 5]), (38, [0, 1, 2, 3, 4, 5, 6, 7])] 6 (D + 3) 277 (129, [(0, zr 74), (1, zi (p : Int)), (2, zi (c : Int)), (3, zi a), (4, zi z), (5, zi (h : Int)), (6, zi s), (7, zi (i : Int))], [], m) _ (And.intro (fun a5 => (hT.1 [(25, [0, 1, 2, 3, 4, 5]), (38, [0, 1, 2, 3, 4, 5, 6, 7])] 6 (D + 3) 277 (146, [(0, zr 74), (1, zi (p : Int)), (2, zi ((c : Int) + 1)), (3, zi a), (4, zi (h : Int)), (5, zi ((h : Int) + 1)), (6, zi s), (7, zi (i : Int))], [], m) _ (o1 a1 a3 a5))) (fun a6 => (hT.1 [(25, [0, 1, 2, 3, 4, 5]), (38, [0, 1, 2, 3, 4, 5, 6, 7])] 6 (D + 3) 277 (140, [(0, zr 74), (1, zi (p : Int)), (2, zi (c : Int)), (3, zi (h : Int)), (4, zi (h : Int)), (5, zi (h : Int)), (6, zi s), (7, zi (i : Int))], [], m) _ (o2 a1 a3 (Classical.byContradiction a6))))))) (fun a4 => (hT.1 [(25, [0, 1, 2, 3, 4, 5]), (38, [0, 1, 2, 3, 4, 5, 6, 7])] 6 (D + 3) 277 (126, [(0, zr 74), (1, zi (p : Int)), (2, zi (c : Int)), (3, zi a), (4, zi z), (5, zi (h : Int)), (6, zi s), (7, zi (i : Int))], [], m) _ (o3 a1 (Classical.byContradiction a4)))))) (fun a2 => (And.intro (fun a7 => (hT.1 [(25, [0, 1, 2, 3, 4, 5]), (38, [0, 1, 2, 3, 4, 5, 6, 7])] 6 (D + 3) 277 (121, [(0, zr 74), (1, zi (p : Int)), (2, zi (c : Int)), (3, zi a), (4, zi z), (5, zi (h : Int)), (6, zi s), (7, zi (i : Int))], [], m) _ (And.intro (fun a9 => (o4 (Classical.byContradiction a2) a7 a9).elim) (fun a10 => (o5 (Classical.byContradiction a2) a7 (Classical.byContradiction a10)))))) (fun a8 => (hT.1 [(25, [0, 1, 2, 3, 4, 5]), (38, [0, 1, 2, 3, 4, 5, 6, 7])] 6 (D + 3) 277 (52, [(0, zr 74), (1, zi (p : Int)), (2, zi (c : Int)), (3, zi a), (4, zi z), (5, zi (h : Int)), (6, zi s), (7, zi (i : Int))], [], m) _ (And.intro (o6 (Classical.byContradiction a2) a8) (hT.1 [(25, [0, 1, 2, 3, 4, 5]), (38, [0, 1, 2, 3, 4, 5, 6, 7])] 6 (D + 3) 277 (61, [(0, zr 74), (1, zi (p : Int)), (2, zi (c : Int)), (3, zi a), (4, zi z), (5, zi (h : Int)), (6, zi s), (7, zi (i : Int))], [zi (m 99 ((wr (4 * (i : Int))).toNat))], m) _ (And.intro (fun a11 => (hT.1 [(25, [0, 1, 2, 3, 4, 5]), (38, [0, 1, 2, 3, 4, 5, 6, 7])] 6 (D + 3) 277 (118, [(0, zr 74), (1, zi (p : Int)), (2, zi (c : Int)), (3, zi a), (4, zi z), (5, zi (h : Int)), (6, zi 1), (7, zi ((i : Int) + 1))], [], m) _ (o7 (Classical.byContradiction a2) a8 a11))) (fun a12 => (hT.1 [(25, [0, 1, 2, 3, 4, 5]), (38, [0, 1, 2, 3, 4, 5, 6, 7])] 6 (D + 3) 277 (70, [(0, zr 74), (1, zi (p : Int)), (2, zi (c : Int)), (3, zi a), (4, zi z), (5, zi (h : Int)), (6, zi s), (7, zi (i : Int))], [zr 74, zi (h : Int), zi (p : Int), zr 74], m) _ (hT.1 [(25, [0, 1, 2, 3, 4, 5]), (38, [0, 1, 2, 3, 4, 5, 6, 7])] 6 (D + 3) 277 (79, [(0, zr 74), (1, zi (p : Int)), (2, zi (c : Int)), (3, zi a), (4, zi z), (5, zi (h : Int)), (6, zi s), (7, zi (i : Int))], [zi ((4 * (i : Int)) + 1), zr 99, zi (h : Int), zi (p : Int), zr 74], m) _ (And.intro (o8 (Classical.byContradiction a2) a8 (Classical.byContradiction a12)) (hT.1 [(25, [0, 1, 2, 3, 4, 5]), (38, [0, 1, 2, 3, 4, 5, 6, 7])] 6 (D + 3) 277 (88, [(0, zr 74), (1, zi (p : Int)), (2, zi (c : Int)), (3, zi a), (4, zi z), (5, zi (h : Int)), (6, zi s), (7, zi (i : Int))], [zi (4 * (i : Int)), zr 99, zi (m 99 ((wr ((4 * (i : Int)) + 1)).toNat)), zi (h : Int), zi (p : Int), zr 74], m) _ (And.intro (o9 (Classical.byContradiction a2) a8 (Classical.byContradiction a12)) (o10 (Classical.byContradiction a2) a8 (Classical.byContradiction a12)))))))))))))))))
theorem zb277_38 (hT : zRules T) {D : Nat} {κ : Option zA → zM → Prop} {m : zM} {p : Nat} {c : Nat} {a : Int} {z : Int} {h : Nat} {s : Int} {i : Nat} {lo : zL} (hlo : z_keep [0, 1, 2, 3, 4, 5, 6, 7] lo = [(0, zr 74), (1, zi (p : Int)), (2, zi (c : Int)), (3, zi a), (4, zi z), (5, zi (h : Int)), (6, zi s), (7, zi (i : Int))])  (hB : zB m) (h_p : p ≤ 5) (h_c : c ≤ 99) (h_a : (-1) ≤ a ∧ a ≤ 99) (h_z : (-1) ≤ z ∧ z ≤ 99) (h_h : h ≤ 99) (h_s : 0 ≤ s ∧ s ≤ 1) (h_i : i ≤ 12) 
    (k1 : ¬ (i : Int) < (m 74 52) → ¬ s = 0 → ¬ (c : Int) = 0 → T (D + 3) 277 (25, [(0, zr 74), (1, zi (p : Int)), (2, zi ((c : Int) + 1)), (3, zi a), (4, zi (h : Int)), (5, zi ((h : Int) + 1))], [], m) κ)
    (k2 : ¬ (i : Int) < (m 74 52) → ¬ s = 0 → (c : Int) = 0 → T (D + 3) 277 (25, [(0, zr 74), (1, zi (p : Int)), (2, zi ((c : Int) + 1)), (3, zi (h : Int)), (4, zi (h : Int)), (5, zi ((h : Int) + 1))], [], m) κ)
    (k3 : ¬ (i : Int) < (m 74 52) → s = 0 → T (D + 3) 277 (25, [(0, zr 74), (1, zi (p : Int)), (2, zi (c : Int)), (3, zi a), (4, zi z), (5, zi ((h : Int) + 1))], [], m) κ)
    (k4 : (i : Int) < (m 74 52) → s = 0 → T (D + 3) 277 (25, [(0, zr 74), (1, zi (p : Int)), (2, zi (c : Int)), (3, zi a), (4, zi z), (5, zi ((h : Int) + 1))], [], m) κ)
    (k5 : (i : Int) < (m 74 52) → ¬ s = 0 → ¬ (m 99 (4 * i)) = (p : Int) → T (D + 3) 277 (38, [(0, zr 74), (1, zi (p : Int)), (2, zi (c : Int)), (3, zi a), (4, zi z), (5, zi (h : Int)), (6, zi 1), (7, zi ((i : Int) + 1))], [], m) κ)
    (k6 : (i : Int) < (m 74 52) → ¬ s = 0 → (m 99 (4 * i)) = (p : Int) → T (D + 2) 214 (0, [(0, zr 74), (1, zi (p : Int)), (2, zi (h : Int)), (3, zi (m 99 (4 * i + 1))), (4, zi (m 99 (4 * i + 2)))], [], m) (fun r m1 => T (D + 3) 277 (94, [(0, zr 74), (1, zi (p : Int)), (2, zi (c : Int)), (3, zi a), (4, zi z), (5, zi (h : Int)), (6, zi s), (7, zi (i : Int))], r.toList ++ [], m1) κ)) :
    T (D + 3) 277 (38, lo, [], m) κ := by
  have hb7 : 0 ≤ (m 74 52) ∧ (m 74 52) ≤ 12 := hB 74 52
  have hb8 : 0 ≤ (m 99 (4 * i)) ∧ (m 99 (4 * i)) ≤ 9999 := hB 99 (4 * i)
  have hb9 : 0 ≤ (m 99 (4 * i + 1)) ∧ (m 99 (4 * i + 1)) ≤ 9999 := hB 99 (4 * i + 1)
  have hb10 : 0 ≤ (m 99 (4 * i + 2)) ∧ (m 99 (4 * i + 2)) ≤ 9999 := hB 99 (4 * i + 2)
  have he0 : wr (i : Int) = (i : Int) := wr_id (by omega) (by omega)
  have he1 : wr (m 74 52) = (m 74 52) := wr_id (by omega) (by omega)
  have he2 : wr s = s := wr_id (by omega) (by omega)
  have he3 : wr (4 * (i : Int)) = (4 * (i : Int)) := wr_id (by omega) (by omega)
  have he4 : (4 * (i : Int)).toNat = 4 * i := by omega
  have he5 : wr (m 99 (4 * i)) = (m 99 (4 * i)) := wr_id (by omega) (by omega)
  have he6 : wr (p : Int) = (p : Int) := wr_id (by omega) (by omega)
  have he7 : wr ((4 * (i : Int)) + 1) = ((4 * (i : Int)) + 1) := wr_id (by omega) (by omega)
  have he8 : ((4 * (i : Int)) + 1).toNat = 4 * i + 1 := by omega
  have he9 : wr ((4 * (i : Int)) + 2) = ((4 * (i : Int)) + 2) := wr_id (by omega) (by omega)
  have he10 : ((4 * (i : Int)) + 2).toNat = 4 * i + 2 := by omega
  have he11 : wr (c : Int) = (c : Int) := wr_id (by omega) (by omega)
  have key := @zb277_38r T hT D κ m p c a z h s i lo hlo
  simp only [he0, he1, he2, he3, he4, he5, he6, he7, he8, he9, he10, he11, Int.toNat_natCast] at key
  exact key
    k1
    k2
    k3
    (fun x0 x1 x2 => by omega)
    (fun x0 x1 x2 => k4 x0 x1)
    (fun x0 x1 => by refine ⟨?_, ?_⟩ <;> omega)
    k5
    (fun x0 x1 x2 => by refine ⟨?_, ?_⟩ <;> omega)
    (fun x0 x1 x2 => by refine ⟨?_, ?_⟩ <;> omega)
    k6
theorem zb277_94r (hT : zRules T) {D : Nat} {κ : Option zA → zM → Prop} {m : zM} {p : Nat} {c : Nat} {a : Int} {z : Int} {h : Nat} {i : Nat} {v : Int} {lo : zL} (hlo : z_keep [0, 1, 2, 3, 4, 5, 7] lo = [(0, zr 74), (1, zi (p : Int)), (2, zi (c : Int)), (3, zi a), (4, zi z), (5, zi (h : Int)), (7, zi (i : Int))]) 
    (o1 : (0 ≤ wr ((4 * (i : Int)) + 3) ∧ wr ((4 * (i : Int)) + 3) < 48))
    (o2 : ¬ wr v = wr (m 99 ((wr ((4 * (i : Int)) + 3)).toNat)) → T (D + 3) 277 (38, [(0, zr 74), (1, zi (p : Int)), (2, zi (c : Int)), (3, zi a), (4, zi z), (5, zi (h : Int)), (6, zi 0), (7, zi ((i : Int) + 1))], [], m) κ)
    (o3 : wr v = wr (m 99 ((wr ((4 * (i : Int)) + 3)).toNat)) → T (D + 3) 277 (38, [(0, zr 74), (1, zi (p : Int)), (2, zi (c : Int)), (3, zi a), (4, zi z), (5, zi (h : Int)), (6, zi 1), (7, zi ((i : Int) + 1))], [], m) κ) :
    T (D + 3) 277 (94, lo, [zi v], m) κ :=
  zkeep hT hlo (hT.1 [(25, [0, 1, 2, 3, 4, 5]), (38, [0, 1, 2, 3, 4, 5, 6, 7])] 6 (D + 3) 277 _ κ (hT.1 [(25, [0, 1, 2, 3, 4, 5]), (38, [0, 1, 2, 3, 4, 5, 6, 7])] 6 (D + 3) 277 (103, [(0, zr 74), (1, zi (p : Int)), (2, zi (c : Int)), (3, zi a), (4, zi z), (5, zi (h : Int)), (7, zi (i : Int))], [zi 3, zi (4 * (i : Int)), zr 99, zi v], m) _ (And.intro (o1) (And.intro (fun a1 => (hT.1 [(25, [0, 1, 2, 3, 4, 5]), (38, [0, 1, 2, 3, 4, 5, 6, 7])] 6 (D + 3) 277 (118, [(0, zr 74), (1, zi (p : Int)), (2, zi (c : Int)), (3, zi a), (4, zi z), (5, zi (h : Int)), (6, zi 0), (7, zi ((i : Int) + 1))], [], m) _ (o2 a1))) (fun a2 => (hT.1 [(25, [0, 1, 2, 3, 4, 5]), (38, [0, 1, 2, 3, 4, 5, 6, 7])] 6 (D + 3) 277 (115, [(0, zr 74), (1, zi (p : Int)), (2, zi (c : Int)), (3, zi a), (4, zi z), (5, zi (h : Int)), (6, zi 1), (7, zi (i : Int))], [], m) _ (o3 (Classical.byContradiction a2))))))))
theorem zb277_94 (hT : zRules T) {D : Nat} {κ : Option zA → zM → Prop} {m : zM} {p : Nat} {c : Nat} {a : Int} {z : Int} {h : Nat} {i : Nat} {v : Int} {lo : zL} (hlo : z_keep [0, 1, 2, 3, 4, 5, 7] lo = [(0, zr 74), (1, zi (p : Int)), (2, zi (c : Int)), (3, zi a), (4, zi z), (5, zi (h : Int)), (7, zi (i : Int))])  (hB : zB m) (h_p : p ≤ 5) (h_c : c ≤ 99) (h_a : (-1) ≤ a ∧ a ≤ 99) (h_z : (-1) ≤ z ∧ z ≤ 99) (h_h : h ≤ 99) (h_i : i ≤ 11) (h_v : 0 ≤ v ∧ v ≤ 99) 
    (k1 : ¬ v = (m 99 (4 * i + 3)) → T (D + 3) 277 (38, [(0, zr 74), (1, zi (p : Int)), (2, zi (c : Int)), (3, zi a), (4, zi z), (5, zi (h : Int)), (6, zi 0), (7, zi ((i : Int) + 1))], [], m) κ)
    (k2 : v = (m 99 (4 * i + 3)) → T (D + 3) 277 (38, [(0, zr 74), (1, zi (p : Int)), (2, zi (c : Int)), (3, zi a), (4, zi z), (5, zi (h : Int)), (6, zi 1), (7, zi ((i : Int) + 1))], [], m) κ) :
    T (D + 3) 277 (94, lo, [zi v], m) κ := by
  have hb7 : 0 ≤ (m 99 (4 * i + 3)) ∧ (m 99 (4 * i + 3)) ≤ 9999 := hB 99 (4 * i + 3)
  have he0 : wr ((4 * (i : Int)) + 3) = ((4 * (i : Int)) + 3) := wr_id (by omega) (by omega)
  have he1 : ((4 * (i : Int)) + 3).toNat = 4 * i + 3 := by omega
  have he2 : wr v = v := wr_id (by omega) (by omega)
  have he3 : wr (m 99 (4 * i + 3)) = (m 99 (4 * i + 3)) := wr_id (by omega) (by omega)
  have key := @zb277_94r T hT D κ m p c a z h i v lo hlo
  simp only [he0, he1, he2, he3, Int.toNat_natCast] at key
  exact key
    (by refine ⟨?_, ?_⟩ <;> omega)
    k1
    k2
theorem zb34_0r (hT : zRules T) {D : Nat} {κ : Option zA → zM → Prop} {m : zM} {c : Nat} {l : Int} 
    (o1 : (0 ≤ wr (c : Int) ∧ wr (c : Int) < 8))
    (o2 : (0 ≤ wr (c : Int) ∧ wr (c : Int) < 8))
    (o3 : 0 < wr (l - wr ((m 21 ((wr (c : Int)).toNat)) + (m 22 ((wr (c : Int)).toNat)))) → (0 ≤ wr (c : Int) ∧ wr (c : Int) < 8))
    (o4 : 0 < wr (l - wr ((m 21 ((wr (c : Int)).toNat)) + (m 22 ((wr (c : Int)).toNat)))) → ¬ wr (m 21 ((wr (c : Int)).toNat)) = wr l → ¬ wr (wr ((m 21 ((wr (c : Int)).toNat)) + (m 22 ((wr (c : Int)).toNat)))) < wr l → False)
    (o5 : 0 < wr (l - wr ((m 21 ((wr (c : Int)).toNat)) + (m 22 ((wr (c : Int)).toNat)))) → ¬ wr (m 21 ((wr (c : Int)).toNat)) = wr l → wr (wr ((m 21 ((wr (c : Int)).toNat)) + (m 22 ((wr (c : Int)).toNat)))) < wr l → κ (some (zi (wr (wr ((wr (l - wr ((m 21 ((wr (c : Int)).toNat)) + (m 22 ((wr (c : Int)).toNat)))) * (m 24 1)) + (3 * (m 24 2))))))) m)
    (o6 : 0 < wr (l - wr ((m 21 ((wr (c : Int)).toNat)) + (m 22 ((wr (c : Int)).toNat)))) → wr (m 21 ((wr (c : Int)).toNat)) = wr l → κ (some (zi (wr (wr ((wr (l - wr ((m 21 ((wr (c : Int)).toNat)) + (m 22 ((wr (c : Int)).toNat)))) * (m 24 1)) + (0 * (m 24 2))))))) m)
    (o7 : ¬ 0 < wr (l - wr ((m 21 ((wr (c : Int)).toNat)) + (m 22 ((wr (c : Int)).toNat)))) → (0 ≤ wr (c : Int) ∧ wr (c : Int) < 8))
    (o8 : ¬ 0 < wr (l - wr ((m 21 ((wr (c : Int)).toNat)) + (m 22 ((wr (c : Int)).toNat)))) → ¬ wr (m 21 ((wr (c : Int)).toNat)) = wr l → ¬ wr (wr ((m 21 ((wr (c : Int)).toNat)) + (m 22 ((wr (c : Int)).toNat)))) < wr l → wr (l + wr (m 24 0)) < wr (wr ((m 21 ((wr (c : Int)).toNat)) + (m 22 ((wr (c : Int)).toNat)))) → κ (some (zi (wr (wr ((0 * (m 24 1)) + (2 * (m 24 2))))))) m)
    (o9 : ¬ 0 < wr (l - wr ((m 21 ((wr (c : Int)).toNat)) + (m 22 ((wr (c : Int)).toNat)))) → ¬ wr (m 21 ((wr (c : Int)).toNat)) = wr l → ¬ wr (wr ((m 21 ((wr (c : Int)).toNat)) + (m 22 ((wr (c : Int)).toNat)))) < wr l → ¬ wr (l + wr (m 24 0)) < wr (wr ((m 21 ((wr (c : Int)).toNat)) + (m 22 ((wr (c : Int)).toNat)))) → κ (some (zi (wr (wr ((0 * (m 24 1)) + (1 * (m 24 2))))))) m)
    (o10 : ¬ 0 < wr (l - wr ((m 21 ((wr (c : Int)).toNat)) + (m 22 ((wr (c : Int)).toNat)))) → ¬ wr (m 21 ((wr (c : Int)).toNat)) = wr l → wr (wr ((m 21 ((wr (c : Int)).toNat)) + (m 22 ((wr (c : Int)).toNat)))) < wr l → False)
    (o11 : ¬ 0 < wr (l - wr ((m 21 ((wr (c : Int)).toNat)) + (m 22 ((wr (c : Int)).toNat)))) → wr (m 21 ((wr (c : Int)).toNat)) = wr l → κ (some (zi (wr (wr ((0 * (m 24 1)) + (0 * (m 24 2))))))) m) :
    T (D + 3) 34 (0, [(0, zr 17), (1, zi (c : Int)), (2, zi l)], [], m) κ :=
  hT.1 [] 6 (D + 3) 34 _ κ (hT.1 [] 6 (D + 2) 28 _ _ (And.intro (o1) (hT.1 [] 6 (D + 2) 28 (10, [(0, zr 17), (1, zi (c : Int))], [zr 22, zi (m 21 ((wr (c : Int)).toNat))], m) _ (And.intro (o2) (hT.1 [] 6 (D + 3) 34 _ _ (hT.1 [] 6 (D + 3) 34 (11, [(0, zr 17), (1, zi (c : Int)), (2, zi l), (3, zi (wr ((m 21 ((wr (c : Int)).toNat)) + (m 22 ((wr (c : Int)).toNat)))))], [zi (l - wr ((m 21 ((wr (c : Int)).toNat)) + (m 22 ((wr (c : Int)).toNat)))), zi 0, zr 17], m) _ (hT.1 [] 6 (D + 2) 295 _ _ (And.intro (fun a1 => (hT.1 [] 6 (D + 3) 34 _ _ (And.intro (o3 a1) (hT.1 [] 6 (D + 3) 34 (22, [(0, zr 17), (1, zi (c : Int)), (2, zi l), (3, zi (wr ((m 21 ((wr (c : Int)).toNat)) + (m 22 ((wr (c : Int)).toNat)))))], [zi (wr ((m 21 ((wr (c : Int)).toNat)) + (m 22 ((wr (c : Int)).toNat)))), zi (m 21 ((wr (c : Int)).toNat)), zr 17, zi (wr (l - wr ((m 21 ((wr (c : Int)).toNat)) + (m 22 ((wr (c : Int)).toNat))))), zr 17], m) _ (hT.1 [] 6 (D + 2) 32 _ _ (And.intro (fun a3 => (And.intro (fun a5 => (o4 a1 a3 a5).elim) (fun a6 => (hT.1 [] 6 (D + 2) 32 (12, [(0, zr 17), (1, zi (m 21 ((wr (c : Int)).toNat))), (2, zi (wr ((m 21 ((wr (c : Int)).toNat)) + (m 22 ((wr (c : Int)).toNat))))), (3, zi l)], [], m) _ (hT.1 [] 6 (D + 3) 34 _ _ (hT.1 [] 6 (D + 2) 33 _ _ (And.intro (z_ixL rfl) (hT.1 [] 6 (D + 2) 33 (8, [(0, zr 17), (1, zi (wr (l - wr ((m 21 ((wr (c : Int)).toNat)) + (m 22 ((wr (c : Int)).toNat)))))), (2, zi 3)], [zi (wr (l - wr ((m 21 ((wr (c : Int)).toNat)) + (m 22 ((wr (c : Int)).toNat)))) * (m 24 1))], m) _ (And.intro (z_ixL rfl) (hT.1 [] 6 (D + 2) 33 (16, [(0, zr 17), (1, zi (wr (l - wr ((m 21 ((wr (c : Int)).toNat)) + (m 22 ((wr (c : Int)).toNat)))))), (2, zi 3)], [zi (3 * (m 24 2)), zi (wr (l - wr ((m 21 ((wr (c : Int)).toNat)) + (m 22 ((wr (c : Int)).toNat)))) * (m 24 1))], m) _ (hT.1 [] 6 (D + 3) 34 _ _ (o5 a1 a3 (Classical.byContradiction a6))))))))))))) (fun a4 => (hT.1 [] 6 (D + 3) 34 _ _ (hT.1 [] 6 (D + 2) 33 _ _ (And.intro (z_ixL rfl) (hT.1 [] 6 (D + 2) 33 (8, [(0, zr 17), (1, zi (wr (l - wr ((m 21 ((wr (c : Int)).toNat)) + (m 22 ((wr (c : Int)).toNat)))))), (2, zi 0)], [zi (wr (l - wr ((m 21 ((wr (c : Int)).toNat)) + (m 22 ((wr (c : Int)).toNat)))) * (m 24 1))], m) _ (And.intro (z_ixL rfl) (hT.1 [] 6 (D + 2) 33 (16, [(0, zr 17), (1, zi (wr (l - wr ((m 21 ((wr (c : Int)).toNat)) + (m 22 ((wr (c : Int)).toNat)))))), (2, zi 0)], [zi (0 * (m 24 2)), zi (wr (l - wr ((m 21 ((wr (c : Int)).toNat)) + (m 22 ((wr (c : Int)).toNat)))) * (m 24 1))], m) _ (hT.1 [] 6 (D + 3) 34 _ _ (o6 a1 (Classical.byContradiction a4)))))))))))))))) (fun a2 => (hT.1 [] 6 (D + 3) 34 _ _ (And.intro (o7 a2) (hT.1 [] 6 (D + 3) 34 (22, [(0, zr 17), (1, zi (c : Int)), (2, zi l), (3, zi (wr ((m 21 ((wr (c : Int)).toNat)) + (m 22 ((wr (c : Int)).toNat)))))], [zi (wr ((m 21 ((wr (c : Int)).toNat)) + (m 22 ((wr (c : Int)).toNat)))), zi (m 21 ((wr (c : Int)).toNat)), zr 17, zi 0, zr 17], m) _ (hT.1 [] 6 (D + 2) 32 _ _ (And.intro (fun a7 => (And.intro (fun a9 => (hT.1 [] 6 (D + 2) 32 (14, [(0, zr 17), (1, zi (m 21 ((wr (c : Int)).toNat))), (2, zi (wr ((m 21 ((wr (c : Int)).toNat)) + (m 22 ((wr (c : Int)).toNat))))), (3, zi l)], [], m) _ (hT.1 [] 6 (D + 1) 27 _ _ (And.intro (z_ixL rfl) (hT.1 [] 6 (D + 2) 32 _ _ (And.intro (fun a11 => (hT.1 [] 6 (D + 3) 34 _ _ (hT.1 [] 6 (D + 2) 33 _ _ (And.intro (z_ixL rfl) (hT.1 [] 6 (D + 2) 33 (8, [(0, zr 17), (1, zi 0), (2, zi 2)], [zi (0 * (m 24 1))], m) _ (And.intro (z_ixL rfl) (hT.1 [] 6 (D + 2) 33 (16, [(0, zr 17), (1, zi 0), (2, zi 2)], [zi (2 * (m 24 2)), zi (0 * (m 24 1))], m) _ (hT.1 [] 6 (D + 3) 34 _ _ (o8 a2 a7 a9 a11))))))))) (fun a12 => (hT.1 [] 6 (D + 3) 34 _ _ (hT.1 [] 6 (D + 2) 33 _ _ (And.intro (z_ixL rfl) (hT.1 [] 6 (D + 2) 33 (8, [(0, zr 17), (1, zi 0), (2, zi 1)], [zi (0 * (m 24 1))], m) _ (And.intro (z_ixL rfl) (hT.1 [] 6 (D + 2) 33 (16, [(0, zr 17), (1, zi 0), (2, zi 1)], [zi (1 * (m 24 2)), zi (0 * (m 24 1))], m) _ (hT.1 [] 6 (D + 3) 34 _ _ (o9 a2 a7 a9 a12))))))))))))))) (fun a10 => (o10 a2 a7 (Classical.byContradiction a10)).elim))) (fun a8 => (hT.1 [] 6 (D + 3) 34 _ _ (hT.1 [] 6 (D + 2) 33 _ _ (And.intro (z_ixL rfl) (hT.1 [] 6 (D + 2) 33 (8, [(0, zr 17), (1, zi 0), (2, zi 0)], [zi (0 * (m 24 1))], m) _ (And.intro (z_ixL rfl) (hT.1 [] 6 (D + 2) 33 (16, [(0, zr 17), (1, zi 0), (2, zi 0)], [zi (0 * (m 24 2)), zi (0 * (m 24 1))], m) _ (hT.1 [] 6 (D + 3) 34 _ _ (o11 a2 (Classical.byContradiction a8))))))))))))))))))))))))
theorem zb34_0 (hT : zRules T) {D : Nat} {κ : Option zA → zM → Prop} {m : zM} {c : Nat} {l : Int}  (hB : zB m) (h_c : c ≤ 7) (h_l : 0 ≤ l ∧ l ≤ 99) 
    (k1 : 0 < (l - ((m 21 c) + (m 22 c))) → ¬ (m 21 c) = l → κ (some (zi (wr (((l - ((m 21 c) + (m 22 c))) * (m 24 1)) + (3 * (m 24 2)))))) m)
    (k2 : 0 < (l - ((m 21 c) + (m 22 c))) → (m 21 c) = l → κ (some (zi (wr (((l - ((m 21 c) + (m 22 c))) * (m 24 1)) + (0 * (m 24 2)))))) m)
    (k3 : ¬ 0 < (l - ((m 21 c) + (m 22 c))) → ¬ (m 21 c) = l → (l + (m 24 0)) < ((m 21 c) + (m 22 c)) → κ (some (zi ((0 * (m 24 1)) + (2 * (m 24 2))))) m)
    (k4 : ¬ 0 < (l - ((m 21 c) + (m 22 c))) → ¬ (m 21 c) = l → ¬ (l + (m 24 0)) < ((m 21 c) + (m 22 c)) → κ (some (zi ((0 * (m 24 1)) + (1 * (m 24 2))))) m)
    (k5 : ¬ 0 < (l - ((m 21 c) + (m 22 c))) → (m 21 c) = l → κ (some (zi ((0 * (m 24 1)) + (0 * (m 24 2))))) m) :
    T (D + 3) 34 (0, [(0, zr 17), (1, zi (c : Int)), (2, zi l)], [], m) κ := by
  have hb2 : (-1) ≤ (m 21 c) ∧ (m 21 c) ≤ 99 := hB 21 c
  have hb3 : (-1) ≤ (m 22 c) ∧ (m 22 c) ≤ 9 := hB 22 c
  have hb4 : 0 ≤ (m 24 1) ∧ (m 24 1) ≤ 9 := hB 24 1
  have hb5 : 0 ≤ (m 24 2) ∧ (m 24 2) ≤ 9 := hB 24 2
  have hb6 : (-2147483648) ≤ wr (((l - ((m 21 c) + (m 22 c))) * (m 24 1)) + (0 * (m 24 2))) ∧ wr (((l - ((m 21 c) + (m 22 c))) * (m 24 1)) + (0 * (m 24 2))) ≤ 2147483647 := wrB (((l - ((m 21 c) + (m 22 c))) * (m 24 1)) + (0 * (m 24 2)))
  have hb7 : (-2147483648) ≤ wr (((l - ((m 21 c) + (m 22 c))) * (m 24 1)) + (3 * (m 24 2))) ∧ wr (((l - ((m 21 c) + (m 22 c))) * (m 24 1)) + (3 * (m 24 2))) ≤ 2147483647 := wrB (((l - ((m 21 c) + (m 22 c))) * (m 24 1)) + (3 * (m 24 2)))
  have hb8 : 0 ≤ (m 24 0) ∧ (m 24 0) ≤ 9 := hB 24 0
  have he0 : wr (c : Int) = (c : Int) := wr_id (by omega) (by omega)
  have he1 : (c : Int).toNat = c := by omega
  have he2 : wr ((m 21 c) + (m 22 c)) = ((m 21 c) + (m 22 c)) := wr_id (by omega) (by omega)
  have he3 : wr (l - ((m 21 c) + (m 22 c))) = (l - ((m 21 c) + (m 22 c))) := wr_id (by omega) (by omega)
  have he4 : wr (m 21 c) = (m 21 c) := wr_id (by omega) (by omega)
  have he5 : wr l = l := wr_id (by omega) (by omega)
  have he6 : wr (wr (((l - ((m 21 c) + (m 22 c))) * (m 24 1)) + (0 * (m 24 2)))) = wr (((l - ((m 21 c) + (m 22 c))) * (m 24 1)) + (0 * (m 24 2))) := wr_id (by omega) (by omega)
  have he7 : wr (wr (((l - ((m 21 c) + (m 22 c))) * (m 24 1)) + (3 * (m 24 2)))) = wr (((l - ((m 21 c) + (m 22 c))) * (m 24 1)) + (3 * (m 24 2))) := wr_id (by omega) (by omega)
  have he8 : wr ((0 * (m 24 1)) + (0 * (m 24 2))) = ((0 * (m 24 1)) + (0 * (m 24 2))) := wr_id (by omega) (by omega)
  have he9 : wr (m 24 0) = (m 24 0) := wr_id (by omega) (by omega)
  have he10 : wr (l + (m 24 0)) = (l + (m 24 0)) := wr_id (by omega) (by omega)
  have he11 : wr ((0 * (m 24 1)) + (2 * (m 24 2))) = ((0 * (m 24 1)) + (2 * (m 24 2))) := wr_id (by omega) (by omega)
  have he12 : wr ((0 * (m 24 1)) + (1 * (m 24 2))) = ((0 * (m 24 1)) + (1 * (m 24 2))) := wr_id (by omega) (by omega)
  have key := @zb34_0r T hT D κ m c l
  simp only [he0, he1, he2, he3, he4, he5, he6, he7, he8, he9, he10, he11, he12, Int.toNat_natCast] at key
  exact key
    (by refine ⟨?_, ?_⟩ <;> omega)
    (by refine ⟨?_, ?_⟩ <;> omega)
    (fun x0 => by refine ⟨?_, ?_⟩ <;> omega)
    (fun x0 x1 x2 => by omega)
    (fun x0 x1 x2 => k1 x0 x1)
    k2
    (fun x0 => by refine ⟨?_, ?_⟩ <;> omega)
    (fun x0 x1 x2 x3 => k3 x0 x1 x3)
    (fun x0 x1 x2 x3 => k4 x0 x1 x3)
    (fun x0 x1 x2 => by omega)
    k5
theorem zb143_0r (hT : zRules T) {D : Nat} {κ : Option zA → zM → Prop} {m : zM} {p : Int} 
    (o1 : wr p < 0 → κ (some (zi (-1))) m)
    (o2 : ¬ wr p < 0 → ¬ wr p < wr (m 17 0) → κ (some (zi (-1))) m)
    (o3 : ¬ wr p < 0 → wr p < wr (m 17 0) → T (D + 4) 171 (0, [(0, zr 1), (1, zi p)], [], m) (fun r m1 => T (D + 5) 143 (18, [(0, zr 1), (1, zi p)], r.toList ++ [], m1) κ)) :
    T (D + 5) 143 (0, [(0, zr 1), (1, zi p)], [], m) κ :=
  hT.1 [(28, [0, 1, 2, 3, 4, 5])] 6 (D + 5) 143 _ κ (hT.1 [] 6 (D + 4) 25 _ _ (And.intro (fun a1 => (And.intro (z_b01L rfl) (hT.1 [(28, [0, 1, 2, 3, 4, 5])] 6 (D + 5) 143 _ _ (And.intro (fun a3 => (z_litF a3 rfl).elim) (fun _ => (o1 a1)))))) (fun a2 => (And.intro (fun a4 => (hT.1 [] 6 (D + 4) 25 (16, [(0, zr 17), (1, zi p)], [], m) _ (And.intro (z_b01L rfl) (hT.1 [(28, [0, 1, 2, 3, 4, 5])] 6 (D + 5) 143 _ _ (And.intro (fun a6 => (z_litF a6 rfl).elim) (fun _ => (o2 a2 a4))))))) (fun a5 => (hT.1 [] 6 (D + 4) 25 (12, [(0, zr 17), (1, zi p)], [], m) _ (And.intro (z_b01L rfl) (hT.1 [(28, [0, 1, 2, 3, 4, 5])] 6 (D + 5) 143 _ _ (And.intro (fun _ => (o3 a2 (Classical.byContradiction a5))) (fun a7 => (a7 (z_litT rfl)).elim))))))))))
theorem zb143_0 (hT : zRules T) {D : Nat} {κ : Option zA → zM → Prop} {m : zM} {p : Int}  (hB : zB m) (h_p : (-2147483648) ≤ p ∧ p ≤ 2147483647) 
    (k1 : p < 0 → κ (some (zi (-1))) m)
    (k2 : ¬ p < 0 → ¬ p < (m 17 0) → κ (some (zi (-1))) m)
    (k3 : ¬ p < 0 → p < (m 17 0) → T (D + 4) 171 (0, [(0, zr 1), (1, zi p)], [], m) (fun r m1 => T (D + 5) 143 (18, [(0, zr 1), (1, zi p)], r.toList ++ [], m1) κ)) :
    T (D + 5) 143 (0, [(0, zr 1), (1, zi p)], [], m) κ := by
  have hb1 : 0 ≤ (m 17 0) ∧ (m 17 0) ≤ 6 := hB 17 0
  have he0 : wr p = p := wr_id (by omega) (by omega)
  have he1 : wr (m 17 0) = (m 17 0) := wr_id (by omega) (by omega)
  have key := @zb143_0r T hT D κ m p
  simp only [he0, he1, Int.toNat_natCast] at key
  exact key
    k1
    k2
    k3
theorem zb143_18r (hT : zRules T) {D : Nat} {κ : Option zA → zM → Prop} {m : zM} {p : Nat} {v : Int} {lo : zL} (hlo : z_keep [0, 1] lo = [(0, zr 1), (1, zi (p : Int))]) 
    (o1 : T (D + 5) 143 (28, [(0, zr 1), (1, zi (p : Int)), (2, zi v), (3, zi (-2)), (4, zi 0), (5, zi 0)], [], m) κ) :
    T (D + 5) 143 (18, lo, [zi v], m) κ :=
  zkeep hT hlo (hT.1 [(28, [0, 1, 2, 3, 4, 5])] 6 (D + 5) 143 _ κ (hT.1 [(28, [0, 1, 2, 3, 4, 5])] 6 (D + 5) 143 (26, [(0, zr 1), (1, zi (p : Int)), (2, zi v), (3, zi (-2)), (4, zi 0)], [zi 0], m) _ (o1)))
theorem zb143_18 (hT : zRules T) {D : Nat} {κ : Option zA → zM → Prop} {m : zM} {p : Nat} {v : Int} {lo : zL} (hlo : z_keep [0, 1] lo = [(0, zr 1), (1, zi (p : Int))])  (hB : zB m) (h_p : p ≤ 5) (h_v : 0 ≤ v ∧ v ≤ 99) 
    (k1 : T (D + 5) 143 (28, [(0, zr 1), (1, zi (p : Int)), (2, zi v), (3, zi (-2)), (4, zi 0), (5, zi 0)], [], m) κ) :
    T (D + 5) 143 (18, lo, [zi v], m) κ := by
  exact zb143_18r hT hlo
    k1
theorem zb143_28r (hT : zRules T) {D : Nat} {κ : Option zA → zM → Prop} {m : zM} {p : Nat} {l : Int} {f : Int} {a : Int} {c : Nat} {lo : zL} (hlo : z_keep [0, 1, 2, 3, 4, 5] lo = [(0, zr 1), (1, zi (p : Int)), (2, zi l), (3, zi f), (4, zi a), (5, zi (c : Int))]) 
    (o1 : ¬ wr (c : Int) < wr (m 17 1) → wr f < 0 → κ (some (zi (wr f))) m)
    (o2 : ¬ wr (c : Int) < wr (m 17 1) → ¬ wr f < 0 → κ (some (zi (wr f))) (zu (zu m 72 1 1) 73 0 a))
    (o3 : wr (c : Int) < wr (m 17 1) → T (D + 4) 29 (0, [(0, zr 17), (1, zi (c : Int))], [], m) (fun r m1 => T (D + 5) 143 (49, [(0, zr 1), (1, zi (p : Int)), (2, zi l), (3, zi f), (4, zi a), (5, zi (c : Int))], r.toList ++ [], m1) κ)) :
    T (D + 5) 143 (28, lo, [], m) κ :=
  zkeep hT hlo (hT.1 [(28, [0, 1, 2, 3, 4, 5])] 6 (D + 5) 143 _ κ (And.intro (fun a1 => (hT.1 [(28, [0, 1, 2, 3, 4, 5])] 6 (D + 5) 143 (100, [(0, zr 1), (1, zi (p : Int)), (2, zi l), (3, zi f), (4, zi a), (5, zi (c : Int))], [zi f], m) _ (And.intro (fun a3 => (o1 a1 a3)) (fun a4 => (hT.1 [] 6 (D + 4) 45 _ _ (And.intro trivial (hT.1 [] 6 (D + 4) 45 (10, [(0, zr 72), (1, zi a)], [zi 0, zr 73], (zu m 72 1 1)) _ (And.intro (And.intro (z_ixL rfl) trivial) (hT.1 [(28, [0, 1, 2, 3, 4, 5])] 6 (D + 5) 143 _ _ (o2 a1 a4)))))))))) (fun a2 => (hT.1 [(28, [0, 1, 2, 3, 4, 5])] 6 (D + 5) 143 (41, [(0, zr 1), (1, zi (p : Int)), (2, zi l), (3, zi f), (4, zi a), (5, zi (c : Int))], [zr 1], m) _ (o3 (Classical.byContradiction a2))))))
theorem zb143_28 (hT : zRules T) {D : Nat} {κ : Option zA → zM → Prop} {m : zM} {p : Nat} {l : Int} {f : Int} {a : Int} {c : Nat} {lo : zL} (hlo : z_keep [0, 1, 2, 3, 4, 5] lo = [(0, zr 1), (1, zi (p : Int)), (2, zi l), (3, zi f), (4, zi a), (5, zi (c : Int))])  (hB : zB m) (h_p : p ≤ 5) (h_l : 0 ≤ l ∧ l ≤ 99) (h_f : (-2) ≤ f ∧ f ≤ 7) (h_a : 0 ≤ a ∧ a ≤ 1000000) (h_c : c ≤ 8) 
    (k1 : ¬ (c : Int) < (m 17 1) → f < 0 → κ (some (zi f)) m)
    (k2 : ¬ (c : Int) < (m 17 1) → ¬ f < 0 → zB (zu (zu m 72 1 1) 73 0 a) → κ (some (zi f)) (zu (zu m 72 1 1) 73 0 a))
    (k3 : (c : Int) < (m 17 1) → T (D + 4) 29 (0, [(0, zr 17), (1, zi (c : Int))], [], m) (fun r m1 => T (D + 5) 143 (49, [(0, zr 1), (1, zi (p : Int)), (2, zi l), (3, zi f), (4, zi a), (5, zi (c : Int))], r.toList ++ [], m1) κ)) :
    T (D + 5) 143 (28, lo, [], m) κ := by
  have hb5 : 0 ≤ (m 17 1) ∧ (m 17 1) ≤ 8 := hB 17 1
  have he0 : wr (c : Int) = (c : Int) := wr_id (by omega) (by omega)
  have he1 : wr (m 17 1) = (m 17 1) := wr_id (by omega) (by omega)
  have he2 : wr f = f := wr_id (by omega) (by omega)
  have key := @zb143_28r T hT D κ m p l f a c lo hlo
  simp only [he0, he1, he2, Int.toNat_natCast] at key
  exact key
    k1
    (fun x0 x1 => k2 x0 x1 (zB_u (zB_u hB (show 0 ≤ 1 ∧ 1 ≤ 26 from ⟨by omega, by omega⟩)) trivial))
    k3
theorem zb143_49r (hT : zRules T) {D : Nat} {κ : Option zA → zM → Prop} {m : zM} {p : Nat} {l : Int} {f : Int} {a : Int} {c : Nat} {w : Int} {lo : zL} (hlo : z_keep [0, 1, 2, 3, 4, 5] lo = [(0, zr 1), (1, zi (p : Int)), (2, zi l), (3, zi f), (4, zi a), (5, zi (c : Int))]) 
    (o1 : T (D + 4) 34 (0, [(0, zr 17), (1, zi (c : Int)), (2, zi l)], [], m) (fun r m1 => T (D + 5) 143 (61, [(0, zr 1), (1, zi (p : Int)), (2, zi l), (3, zi f), (4, zi a), (5, zi (c : Int)), (6, zi w)], r.toList ++ [], m1) κ)) :
    T (D + 5) 143 (49, lo, [zi w], m) κ :=
  zkeep hT hlo (hT.1 [(28, [0, 1, 2, 3, 4, 5])] 6 (D + 5) 143 _ κ (o1))
theorem zb143_49 (hT : zRules T) {D : Nat} {κ : Option zA → zM → Prop} {m : zM} {p : Nat} {l : Int} {f : Int} {a : Int} {c : Nat} {w : Int} {lo : zL} (hlo : z_keep [0, 1, 2, 3, 4, 5] lo = [(0, zr 1), (1, zi (p : Int)), (2, zi l), (3, zi f), (4, zi a), (5, zi (c : Int))])  (hB : zB m) (h_p : p ≤ 5) (h_l : 0 ≤ l ∧ l ≤ 99) (h_f : (-2) ≤ f ∧ f ≤ 7) (h_a : 0 ≤ a ∧ a ≤ 1000000) (h_c : c ≤ 7) (h_w : (-1) ≤ w ∧ w ≤ 5) 
    (k1 : T (D + 4) 34 (0, [(0, zr 17), (1, zi (c : Int)), (2, zi l)], [], m) (fun r m1 => T (D + 5) 143 (61, [(0, zr 1), (1, zi (p : Int)), (2, zi l), (3, zi f), (4, zi a), (5, zi (c : Int)), (6, zi w)], r.toList ++ [], m1) κ)) :
    T (D + 5) 143 (49, lo, [zi w], m) κ := by
  exact zb143_49r hT hlo
    k1
theorem zb143_61r (hT : zRules T) {D : Nat} {κ : Option zA → zM → Prop} {m : zM} {p : Nat} {l : Int} {f : Int} {a : Int} {c : Nat} {w : Int} {v : Int} {lo : zL} (hlo : z_keep [0, 1, 2, 3, 4, 5, 6] lo = [(0, zr 1), (1, zi (p : Int)), (2, zi l), (3, zi f), (4, zi a), (5, zi (c : Int)), (6, zi w)]) 
    (o1 : wr w = (-1) → wr f < 0 → T (D + 5) 143 (28, [(0, zr 1), (1, zi (p : Int)), (2, zi l), (3, zi (c : Int)), (4, zi v), (5, zi ((c : Int) + 1))], [], m) κ)
    (o2 : wr w = (-1) → ¬ wr f < 0 → ¬ wr v < wr a → T (D + 5) 143 (28, [(0, zr 1), (1, zi (p : Int)), (2, zi l), (3, zi f), (4, zi a), (5, zi ((c : Int) + 1))], [], m) κ)
    (o3 : wr w = (-1) → ¬ wr f < 0 → wr v < wr a → T (D + 5) 143 (28, [(0, zr 1), (1, zi (p : Int)), (2, zi l), (3, zi (c : Int)), (4, zi v), (5, zi ((c : Int) + 1))], [], m) κ)
    (o4 : ¬ wr w = (-1) → ¬ wr w = wr (p : Int) → T (D + 5) 143 (28, [(0, zr 1), (1, zi (p : Int)), (2, zi l), (3, zi f), (4, zi a), (5, zi ((c : Int) + 1))], [], m) κ)
    (o5 : ¬ wr w = (-1) → wr w = wr (p : Int) → wr f < 0 → T (D + 5) 143 (28, [(0, zr 1), (1, zi (p : Int)), (2, zi l), (3, zi (c : Int)), (4, zi v), (5, zi ((c : Int) + 1))], [], m) κ)
    (o6 : ¬ wr w = (-1) → wr w = wr (p : Int) → ¬ wr f < 0 → ¬ wr v < wr a → T (D + 5) 143 (28, [(0, zr 1), (1, zi (p : Int)), (2, zi l), (3, zi f), (4, zi a), (5, zi ((c : Int) + 1))], [], m) κ)
    (o7 : ¬ wr w = (-1) → wr w = wr (p : Int) → ¬ wr f < 0 → wr v < wr a → T (D + 5) 143 (28, [(0, zr 1), (1, zi (p : Int)), (2, zi l), (3, zi (c : Int)), (4, zi v), (5, zi ((c : Int) + 1))], [], m) κ) :
    T (D + 5) 143 (61, lo, [zi v], m) κ :=
  zkeep hT hlo (hT.1 [(28, [0, 1, 2, 3, 4, 5])] 6 (D + 5) 143 _ κ (And.intro (fun a1 => (And.intro (fun a3 => (hT.1 [(28, [0, 1, 2, 3, 4, 5])] 6 (D + 5) 143 (86, [(0, zr 1), (1, zi (p : Int)), (2, zi l), (3, zi f), (4, zi a), (5, zi (c : Int)), (6, zi w), (7, zi v)], [], m) _ (o1 a1 a3))) (fun a4 => (hT.1 [(28, [0, 1, 2, 3, 4, 5])] 6 (D + 5) 143 (79, [(0, zr 1), (1, zi (p : Int)), (2, zi l), (3, zi f), (4, zi a), (5, zi (c : Int)), (6, zi w), (7, zi v)], [], m) _ (And.intro (fun a5 => (o2 a1 a4 a5)) (fun a6 => (hT.1 [(28, [0, 1, 2, 3, 4, 5])] 6 (D + 5) 143 (91, [(0, zr 1), (1, zi (p : Int)), (2, zi l), (3, zi (c : Int)), (4, zi a), (5, zi (c : Int)), (6, zi w), (7, zi v)], [zi v], m) _ (o3 a1 a4 (Classical.byContradiction a6))))))))) (fun a2 => (hT.1 [(28, [0, 1, 2, 3, 4, 5])] 6 (D + 5) 143 (72, [(0, zr 1), (1, zi (p : Int)), (2, zi l), (3, zi f), (4, zi a), (5, zi (c : Int)), (6, zi w), (7, zi v)], [zi (p : Int), zi w], m) _ (And.intro (fun a7 => (o4 a2 a7)) (fun a8 => (And.intro (fun a9 => (hT.1 [(28, [0, 1, 2, 3, 4, 5])] 6 (D + 5) 143 (91, [(0, zr 1), (1, zi (p : Int)), (2, zi l), (3, zi (c : Int)), (4, zi a), (5, zi (c : Int)), (6, zi w), (7, zi v)], [zi v], m) _ (o5 a2 (Classical.byContradiction a8) a9))) (fun a10 => (And.intro (fun a11 => (hT.1 [(28, [0, 1, 2, 3, 4, 5])] 6 (D + 5) 143 (93, [(0, zr 1), (1, zi (p : Int)), (2, zi l), (3, zi f), (4, zi a), (5, zi (c : Int)), (6, zi w), (7, zi v)], [], m) _ (o6 a2 (Classical.byContradiction a8) a10 a11))) (fun a12 => (hT.1 [(28, [0, 1, 2, 3, 4, 5])] 6 (D + 5) 143 (86, [(0, zr 1), (1, zi (p : Int)), (2, zi l), (3, zi f), (4, zi a), (5, zi (c : Int)), (6, zi w), (7, zi v)], [], m) _ (o7 a2 (Classical.byContradiction a8) a10 (Classical.byContradiction a12)))))))))))))
theorem zb143_61 (hT : zRules T) {D : Nat} {κ : Option zA → zM → Prop} {m : zM} {p : Nat} {l : Int} {f : Int} {a : Int} {c : Nat} {w : Int} {v : Int} {lo : zL} (hlo : z_keep [0, 1, 2, 3, 4, 5, 6] lo = [(0, zr 1), (1, zi (p : Int)), (2, zi l), (3, zi f), (4, zi a), (5, zi (c : Int)), (6, zi w)])  (hB : zB m) (h_p : p ≤ 5) (h_l : 0 ≤ l ∧ l ≤ 99) (h_f : (-2) ≤ f ∧ f ≤ 7) (h_a : 0 ≤ a ∧ a ≤ 1000000) (h_c : c ≤ 7) (h_w : (-1) ≤ w ∧ w ≤ 5) (h_v : 0 ≤ v ∧ v ≤ 1000000) 
    (k1 : w = (-1) → f < 0 → T (D + 5) 143 (28, [(0, zr 1), (1, zi (p : Int)), (2, zi l), (3, zi (c : Int)), (4, zi v), (5, zi ((c : Int) + 1))], [], m) κ)
    (k2 : w = (-1) → ¬ f < 0 → ¬ v < a → T (D + 5) 143 (28, [(0, zr 1), (1, zi (p : Int)), (2, zi l), (3, zi f), (4, zi a), (5, zi ((c : Int) + 1))], [], m) κ)
    (k3 : w = (-1) → ¬ f < 0 → v < a → T (D + 5) 143 (28, [(0, zr 1), (1, zi (p : Int)), (2, zi l), (3, zi (c : Int)), (4, zi v), (5, zi ((c : Int) + 1))], [], m) κ)
    (k4 : ¬ w = (-1) → ¬ w = (p : Int) → T (D + 5) 143 (28, [(0, zr 1), (1, zi (p : Int)), (2, zi l), (3, zi f), (4, zi a), (5, zi ((c : Int) + 1))], [], m) κ)
    (k5 : ¬ w = (-1) → w = (p : Int) → f < 0 → T (D + 5) 143 (28, [(0, zr 1), (1, zi (p : Int)), (2, zi l), (3, zi (c : Int)), (4, zi v), (5, zi ((c : Int) + 1))], [], m) κ)
    (k6 : ¬ w = (-1) → w = (p : Int) → ¬ f < 0 → ¬ v < a → T (D + 5) 143 (28, [(0, zr 1), (1, zi (p : Int)), (2, zi l), (3, zi f), (4, zi a), (5, zi ((c : Int) + 1))], [], m) κ)
    (k7 : ¬ w = (-1) → w = (p : Int) → ¬ f < 0 → v < a → T (D + 5) 143 (28, [(0, zr 1), (1, zi (p : Int)), (2, zi l), (3, zi (c : Int)), (4, zi v), (5, zi ((c : Int) + 1))], [], m) κ) :
    T (D + 5) 143 (61, lo, [zi v], m) κ := by
  have he0 : wr w = w := wr_id (by omega) (by omega)
  have he1 : wr f = f := wr_id (by omega) (by omega)
  have he2 : wr v = v := wr_id (by omega) (by omega)
  have he3 : wr a = a := wr_id (by omega) (by omega)
  have he4 : wr (p : Int) = (p : Int) := wr_id (by omega) (by omega)
  have key := @zb143_61r T hT D κ m p l f a c w v lo hlo
  simp only [he0, he1, he2, he3, he4, Int.toNat_natCast] at key
  exact key
    k1
    k2
    k3
    k4
    k5
    k6
    k7
theorem zb262_0r (hT : zRules T) {D : Nat} {κ : Option zA → zM → Prop} {m : zM} {p : Int} 
    (o1 : wr p < 0 → κ (some (zi (-1))) (zu m 74 12 0))
    (o2 : ¬ wr p < 0 → wr ((m 74 4) - 1) < wr p → κ (some (zi (-1))) (zu m 74 12 0))
    (o3 : ¬ wr p < 0 → ¬ wr ((m 74 4) - 1) < wr p → T (D + 5) 262 (25, [(0, zr 74), (1, zi p), (2, zi (-2)), (3, zi 100000000), (4, zi 0)], [], (zu m 74 12 0)) κ) :
    T (D + 5) 262 (0, [(0, zr 74), (1, zi p)], [], m) κ :=
  hT.1 [(25, [0, 1, 2, 3, 4])] 6 (D + 5) 262 _ κ (And.intro trivial (hT.1 [] 6 (D + 4) 190 _ _ (hT.1 [] 6 (D + 4) 190 (8, [(0, zr 74), (1, zi p)], [zi ((m 74 4) - 1), zi 0, zi p], (zu m 74 12 0)) _ (hT.1 [] 6 (D + 3) 186 _ _ (And.intro (fun a1 => (And.intro (z_b01L rfl) (hT.1 [] 6 (D + 4) 190 _ _ (And.intro (z_b01L rfl) (hT.1 [(25, [0, 1, 2, 3, 4])] 6 (D + 5) 262 _ _ (And.intro (fun a3 => (z_litF a3 rfl).elim) (fun _ => (o1 a1)))))))) (fun a2 => (And.intro (fun a4 => (hT.1 [] 6 (D + 3) 186 (14, [(0, zi p), (1, zi 0), (2, zi ((m 74 4) - 1))], [], (zu m 74 12 0)) _ (And.intro (z_b01L rfl) (hT.1 [] 6 (D + 4) 190 _ _ (And.intro (z_b01L rfl) (hT.1 [(25, [0, 1, 2, 3, 4])] 6 (D + 5) 262 _ _ (And.intro (fun a6 => (z_litF a6 rfl).elim) (fun _ => (o2 a2 a4))))))))) (fun a5 => (hT.1 [] 6 (D + 3) 186 (10, [(0, zi p), (1, zi 0), (2, zi ((m 74 4) - 1))], [], (zu m 74 12 0)) _ (And.intro (z_b01L rfl) (hT.1 [] 6 (D + 4) 190 _ _ (And.intro (z_b01L rfl) (hT.1 [(25, [0, 1, 2, 3, 4])] 6 (D + 5) 262 _ _ (And.intro (fun _ => (hT.1 [(25, [0, 1, 2, 3, 4])] 6 (D + 5) 262 (23, [(0, zr 74), (1, zi p), (2, zi (-2)), (3, zi 100000000)], [zi 0], (zu m 74 12 0)) _ (o3 a2 a5))) (fun a7 => (a7 (z_litT rfl)).elim)))))))))))))))
theorem zb262_0 (hT : zRules T) {D : Nat} {κ : Option zA → zM → Prop} {m : zM} {p : Int}  (hB : zB m) (h_p : (-2147483648) ≤ p ∧ p ≤ 2147483647) 
    (k1 : p < 0 → zB (zu m 74 12 0) → κ (some (zi (-1))) (zu m 74 12 0))
    (k2 : ¬ p < 0 → ((m 74 4) - 1) < p → zB (zu m 74 12 0) → κ (some (zi (-1))) (zu m 74 12 0))
    (k3 : ¬ p < 0 → ¬ ((m 74 4) - 1) < p → zB (zu m 74 12 0) → T (D + 5) 262 (25, [(0, zr 74), (1, zi p), (2, zi (-2)), (3, zi 100000000), (4, zi 0)], [], (zu m 74 12 0)) κ) :
    T (D + 5) 262 (0, [(0, zr 74), (1, zi p)], [], m) κ := by
  have hb1 : 0 ≤ (m 74 4) ∧ (m 74 4) ≤ 6 := hB 74 4
  have he0 : wr p = p := wr_id (by omega) (by omega)
  have he1 : wr ((m 74 4) - 1) = ((m 74 4) - 1) := wr_id (by omega) (by omega)
  have key := @zb262_0r T hT D κ m p
  simp only [he0, he1, Int.toNat_natCast] at key
  exact key
    (fun x0 => k1 x0 (zB_u hB trivial))
    (fun x0 x1 => k2 x0 x1 (zB_u hB trivial))
    (fun x0 x1 => k3 x0 x1 (zB_u hB trivial))
theorem zb262_25r (hT : zRules T) {D : Nat} {κ : Option zA → zM → Prop} {m : zM} {p : Nat} {f : Int} {a : Int} {c : Nat} {lo : zL} (hlo : z_keep [0, 1, 2, 3, 4] lo = [(0, zr 74), (1, zi (p : Int)), (2, zi f), (3, zi a), (4, zi (c : Int))]) 
    (o1 : ¬ wr (c : Int) < wr (m 74 6) → ¬ wr f < 0 → κ (some (zi (wr f))) (zu (zu (zu m 74 11 0) 81 0 a) 74 11 1))
    (o2 : ¬ wr (c : Int) < wr (m 74 6) → wr f < 0 → κ (some (zi (-2))) m)
    (o3 : wr (c : Int) < wr (m 74 6) → T (D + 4) 217 (0, [(0, zr 74), (1, zr 75), (2, zi (c : Int))], [], m) (fun r m1 => T (D + 5) 262 (44, [(0, zr 74), (1, zi (p : Int)), (2, zi f), (3, zi a), (4, zi (c : Int))], r.toList ++ [], m1) κ)) :
    T (D + 5) 262 (25, lo, [], m) κ :=
  zkeep hT hlo (hT.1 [(25, [0, 1, 2, 3, 4])] 6 (D + 5) 262 _ κ (And.intro (fun a1 => (And.intro (fun a3 => (hT.1 [(25, [0, 1, 2, 3, 4])] 6 (D + 5) 262 (98, [(0, zr 74), (1, zi (p : Int)), (2, zi f), (3, zi a), (4, zi (c : Int))], [], m) _ (And.intro trivial (hT.1 [] 6 (D + 4) 189 _ _ (And.intro (And.intro (z_ixL rfl) trivial) (hT.1 [] 6 (D + 4) 189 (10, [(0, zr 74), (1, zi a)], [], (zu (zu m 74 11 0) 81 0 a)) _ (And.intro trivial (hT.1 [] 6 (D + 4) 189 (20, [(0, zr 74), (1, zi a)], [], (zu (zu (zu m 74 11 0) 81 0 a) 74 11 1)) _ (hT.1 [(25, [0, 1, 2, 3, 4])] 6 (D + 5) 262 _ _ (o1 a1 a3)))))))))) (fun a4 => (hT.1 [(25, [0, 1, 2, 3, 4])] 6 (D + 5) 262 (95, [(0, zr 74), (1, zi (p : Int)), (2, zi f), (3, zi a), (4, zi (c : Int))], [], m) _ (o2 a1 (Classical.byContradiction a4)))))) (fun a2 => (hT.1 [(25, [0, 1, 2, 3, 4])] 6 (D + 5) 262 (36, [(0, zr 74), (1, zi (p : Int)), (2, zi f), (3, zi a), (4, zi (c : Int))], [zr 74, zr 74], m) _ (o3 (Classical.byContradiction a2))))))
theorem zb262_25 (hT : zRules T) {D : Nat} {κ : Option zA → zM → Prop} {m : zM} {p : Nat} {f : Int} {a : Int} {c : Nat} {lo : zL} (hlo : z_keep [0, 1, 2, 3, 4] lo = [(0, zr 74), (1, zi (p : Int)), (2, zi f), (3, zi a), (4, zi (c : Int))])  (hB : zB m) (h_p : p ≤ 5) (h_f : (-2) ≤ f ∧ f ≤ 7) (h_a : 0 ≤ a ∧ a ≤ 100000000) (h_c : c ≤ 8) 
    (k1 : ¬ (c : Int) < (m 74 6) → ¬ f < 0 → zB (zu (zu (zu m 74 11 0) 81 0 a) 74 11 1) → κ (some (zi f)) (zu (zu (zu m 74 11 0) 81 0 a) 74 11 1))
    (k2 : ¬ (c : Int) < (m 74 6) → f < 0 → κ (some (zi (-2))) m)
    (k3 : (c : Int) < (m 74 6) → T (D + 4) 217 (0, [(0, zr 74), (1, zr 75), (2, zi (c : Int))], [], m) (fun r m1 => T (D + 5) 262 (44, [(0, zr 74), (1, zi (p : Int)), (2, zi f), (3, zi a), (4, zi (c : Int))], r.toList ++ [], m1) κ)) :
    T (D + 5) 262 (25, lo, [], m) κ := by
  have hb4 : 0 ≤ (m 74 6) ∧ (m 74 6) ≤ 8 := hB 74 6
  have he0 : wr (c : Int) = (c : Int) := wr_id (by omega) (by omega)
  have he1 : wr (m 74 6) = (m 74 6) := wr_id (by omega) (by omega)
  have he2 : wr f = f := wr_id (by omega) (by omega)
  have key := @zb262_25r T hT D κ m p f a c lo hlo
  simp only [he0, he1, he2, Int.toNat_natCast] at key
  exact key
    (fun x0 x1 => k1 x0 x1 (zB_u (zB_u (zB_u hB (show 0 ≤ 0 ∧ 0 ≤ 32 from ⟨by omega, by omega⟩)) trivial) (show 0 ≤ 1 ∧ 1 ≤ 32 from ⟨by omega, by omega⟩)))
    k2
    k3
theorem zb262_44r (hT : zRules T) {D : Nat} {κ : Option zA → zM → Prop} {m : zM} {p : Nat} {f : Int} {a : Int} {c : Nat} {w : Int} {lo : zL} (hlo : z_keep [0, 1, 2, 3, 4] lo = [(0, zr 74), (1, zi (p : Int)), (2, zi f), (3, zi a), (4, zi (c : Int))]) 
    (o1 : wr w = (-1) → T (D + 4) 261 (0, [(0, zr 74), (1, zi (c : Int)), (2, zi (p : Int))], [], m) (fun r m1 => T (D + 5) 262 (68, [(0, zr 74), (1, zi (p : Int)), (2, zi f), (3, zi a), (4, zi (c : Int)), (5, zi w)], r.toList ++ [], m1) κ))
    (o2 : ¬ wr w = (-1) → wr w = wr (p : Int) → T (D + 4) 261 (0, [(0, zr 74), (1, zi (c : Int)), (2, zi (p : Int))], [], m) (fun r m1 => T (D + 5) 262 (68, [(0, zr 74), (1, zi (p : Int)), (2, zi f), (3, zi a), (4, zi (c : Int)), (5, zi w)], r.toList ++ [], m1) κ))
    (o3 : ¬ wr w = (-1) → ¬ wr w = wr (p : Int) → T (D + 5) 262 (25, [(0, zr 74), (1, zi (p : Int)), (2, zi f), (3, zi a), (4, zi ((c : Int) + 1))], [], m) κ) :
    T (D + 5) 262 (44, lo, [zi w], m) κ :=
  zkeep hT hlo (hT.1 [(25, [0, 1, 2, 3, 4])] 6 (D + 5) 262 _ κ (And.intro (fun a1 => (hT.1 [(25, [0, 1, 2, 3, 4])] 6 (D + 5) 262 (64, [(0, zr 74), (1, zi (p : Int)), (2, zi f), (3, zi a), (4, zi (c : Int)), (5, zi w)], [zi (c : Int), zr 74], m) _ (o1 a1))) (fun a2 => (hT.1 [(25, [0, 1, 2, 3, 4])] 6 (D + 5) 262 (55, [(0, zr 74), (1, zi (p : Int)), (2, zi f), (3, zi a), (4, zi (c : Int)), (5, zi w)], [zi (p : Int), zi w], m) _ (And.intro (fun a3 => (o2 a2 a3)) (fun a4 => (o3 a2 a4)))))))
theorem zb262_44 (hT : zRules T) {D : Nat} {κ : Option zA → zM → Prop} {m : zM} {p : Nat} {f : Int} {a : Int} {c : Nat} {w : Int} {lo : zL} (hlo : z_keep [0, 1, 2, 3, 4] lo = [(0, zr 74), (1, zi (p : Int)), (2, zi f), (3, zi a), (4, zi (c : Int))])  (hB : zB m) (h_p : p ≤ 5) (h_f : (-2) ≤ f ∧ f ≤ 7) (h_a : 0 ≤ a ∧ a ≤ 100000000) (h_c : c ≤ 7) (h_w : (-1) ≤ w ∧ w ≤ 5) 
    (k1 : w = (-1) → T (D + 4) 261 (0, [(0, zr 74), (1, zi (c : Int)), (2, zi (p : Int))], [], m) (fun r m1 => T (D + 5) 262 (68, [(0, zr 74), (1, zi (p : Int)), (2, zi f), (3, zi a), (4, zi (c : Int)), (5, zi w)], r.toList ++ [], m1) κ))
    (k2 : ¬ w = (-1) → w = (p : Int) → T (D + 4) 261 (0, [(0, zr 74), (1, zi (c : Int)), (2, zi (p : Int))], [], m) (fun r m1 => T (D + 5) 262 (68, [(0, zr 74), (1, zi (p : Int)), (2, zi f), (3, zi a), (4, zi (c : Int)), (5, zi w)], r.toList ++ [], m1) κ))
    (k3 : ¬ w = (-1) → ¬ w = (p : Int) → T (D + 5) 262 (25, [(0, zr 74), (1, zi (p : Int)), (2, zi f), (3, zi a), (4, zi ((c : Int) + 1))], [], m) κ) :
    T (D + 5) 262 (44, lo, [zi w], m) κ := by
  have he0 : wr w = w := wr_id (by omega) (by omega)
  have he1 : wr (p : Int) = (p : Int) := wr_id (by omega) (by omega)
  have key := @zb262_44r T hT D κ m p f a c w lo hlo
  simp only [he0, he1, Int.toNat_natCast] at key
  exact key
    k1
    k2
    k3
theorem zb262_68r (hT : zRules T) {D : Nat} {κ : Option zA → zM → Prop} {m : zM} {p : Nat} {f : Int} {a : Int} {c : Nat} {v : Int} {lo : zL} (hlo : z_keep [0, 1, 2, 3, 4] lo = [(0, zr 74), (1, zi (p : Int)), (2, zi f), (3, zi a), (4, zi (c : Int))]) 
    (o1 : wr v < wr a → T (D + 5) 262 (25, [(0, zr 74), (1, zi (p : Int)), (2, zi (c : Int)), (3, zi v), (4, zi ((c : Int) + 1))], [], m) κ)
    (o2 : ¬ wr v < wr a → T (D + 5) 262 (25, [(0, zr 74), (1, zi (p : Int)), (2, zi f), (3, zi a), (4, zi ((c : Int) + 1))], [], m) κ) :
    T (D + 5) 262 (68, lo, [zi v], m) κ :=
  zkeep hT hlo (hT.1 [(25, [0, 1, 2, 3, 4])] 6 (D + 5) 262 _ κ (And.intro (fun a1 => (hT.1 [(25, [0, 1, 2, 3, 4])] 6 (D + 5) 262 (82, [(0, zr 74), (1, zi (p : Int)), (2, zi (c : Int)), (3, zi a), (4, zi (c : Int)), (6, zi v)], [], m) _ (o1 a1))) (fun a2 => (hT.1 [(25, [0, 1, 2, 3, 4])] 6 (D + 5) 262 (88, [(0, zr 74), (1, zi (p : Int)), (2, zi f), (3, zi a), (4, zi ((c : Int) + 1)), (6, zi v)], [], m) _ (o2 a2)))))
theorem zb262_68 (hT : zRules T) {D : Nat} {κ : Option zA → zM → Prop} {m : zM} {p : Nat} {f : Int} {a : Int} {c : Nat} {v : Int} {lo : zL} (hlo : z_keep [0, 1, 2, 3, 4] lo = [(0, zr 74), (1, zi (p : Int)), (2, zi f), (3, zi a), (4, zi (c : Int))])  (hB : zB m) (h_p : p ≤ 5) (h_f : (-2) ≤ f ∧ f ≤ 7) (h_a : 0 ≤ a ∧ a ≤ 100000000) (h_c : c ≤ 7) (h_v : 0 ≤ v ∧ v ≤ 1000000) 
    (k1 : v < a → T (D + 5) 262 (25, [(0, zr 74), (1, zi (p : Int)), (2, zi (c : Int)), (3, zi v), (4, zi ((c : Int) + 1))], [], m) κ)
    (k2 : ¬ v < a → T (D + 5) 262 (25, [(0, zr 74), (1, zi (p : Int)), (2, zi f), (3, zi a), (4, zi ((c : Int) + 1))], [], m) κ) :
    T (D + 5) 262 (68, lo, [zi v], m) κ := by
  have he0 : wr v = v := wr_id (by omega) (by omega)
  have he1 : wr a = a := wr_id (by omega) (by omega)
  have key := @zb262_68r T hT D κ m p f a c v lo hlo
  simp only [he0, he1, Int.toNat_natCast] at key
  exact key
    k1
    k2
theorem zb261_0r (hT : zRules T) {D : Nat} {κ : Option zA → zM → Prop} {m : zM} {c : Nat} {p : Nat} 
    (o1 : T (D + 3) 228 (0, [(0, zr 75), (1, zr 91), (2, zi 0)], [], m) (fun r m1 => T (D + 4) 261 (12, [(0, zr 74), (1, zi (c : Int)), (2, zi (p : Int))], r.toList ++ [], m1) κ)) :
    T (D + 4) 261 (0, [(0, zr 74), (1, zi (c : Int)), (2, zi (p : Int))], [], m) κ :=
  hT.1 [] 6 (D + 4) 261 _ κ (o1)
theorem zb261_0 (hT : zRules T) {D : Nat} {κ : Option zA → zM → Prop} {m : zM} {c : Nat} {p : Nat}  (hB : zB m) (h_c : c ≤ 7) (h_p : p ≤ 5) 
    (k1 : T (D + 3) 228 (0, [(0, zr 75), (1, zr 91), (2, zi 0)], [], m) (fun r m1 => T (D + 4) 261 (12, [(0, zr 74), (1, zi (c : Int)), (2, zi (p : Int))], r.toList ++ [], m1) κ)) :
    T (D + 4) 261 (0, [(0, zr 74), (1, zi (c : Int)), (2, zi (p : Int))], [], m) κ := by
  exact zb261_0r hT
    k1
theorem zb261_12r (hT : zRules T) {D : Nat} {κ : Option zA → zM → Prop} {m : zM} {c : Nat} {p : Nat} {lo : zL} (hlo : z_keep [0, 1, 2] lo = [(0, zr 74), (1, zi (c : Int)), (2, zi (p : Int))]) 
    (o1 : T (D + 3) 216 (0, [(0, zr 74), (1, zi (p : Int)), (2, zi 0)], [], (zu (zu (zu m 74 31 0) 74 32 0) 74 33 0)) (fun r m1 => T (D + 4) 261 (28, [(0, zr 74), (1, zi (c : Int)), (2, zi (p : Int))], r.toList ++ [zi (c : Int), zr 91, zr 74], m1) κ)) :
    T (D + 4) 261 (12, lo, [], m) κ :=
  zkeep hT hlo (hT.1 [] 6 (D + 4) 261 _ κ (hT.1 [] 6 (D + 3) 224 _ _ (And.intro trivial (And.intro trivial (hT.1 [] 6 (D + 3) 224 (10, [(0, zr 74)], [], (zu (zu m 74 31 0) 74 32 0)) _ (And.intro trivial (hT.1 [] 6 (D + 4) 261 _ _ (hT.1 [] 6 (D + 4) 261 (24, [(0, zr 74), (1, zi (c : Int)), (2, zi (p : Int))], [zi (p : Int), zr 74, zi (c : Int), zr 91, zr 74], (zu (zu (zu m 74 31 0) 74 32 0) 74 33 0)) _ (o1)))))))))
theorem zb261_12 (hT : zRules T) {D : Nat} {κ : Option zA → zM → Prop} {m : zM} {c : Nat} {p : Nat} {lo : zL} (hlo : z_keep [0, 1, 2] lo = [(0, zr 74), (1, zi (c : Int)), (2, zi (p : Int))])  (hB : zB m) (h_c : c ≤ 7) (h_p : p ≤ 5) 
    (k1 : zB (zu (zu (zu m 74 31 0) 74 32 0) 74 33 0) → T (D + 3) 216 (0, [(0, zr 74), (1, zi (p : Int)), (2, zi 0)], [], (zu (zu (zu m 74 31 0) 74 32 0) 74 33 0)) (fun r m1 => T (D + 4) 261 (28, [(0, zr 74), (1, zi (c : Int)), (2, zi (p : Int))], r.toList ++ [zi (c : Int), zr 91, zr 74], m1) κ)) :
    T (D + 4) 261 (12, lo, [], m) κ := by
  exact zb261_12r hT hlo
    (k1  (zB_u (zB_u (zB_u hB trivial) trivial) trivial))
theorem zb261_28r (hT : zRules T) {D : Nat} {κ : Option zA → zM → Prop} {m : zM} {c : Nat} {v : Int} {lo : zL} (hlo : z_keep [0] lo = [(0, zr 74)]) 
    (o1 : T (D + 3) 226 (0, [(0, zr 74), (1, zr 91), (2, zi (c : Int)), (3, zi v)], [], m) (fun r m1 => T (D + 4) 261 (31, [(0, zr 74)], r.toList ++ [], m1) κ)) :
    T (D + 4) 261 (28, lo, [zi v, zi (c : Int), zr 91, zr 74], m) κ :=
  zkeep hT hlo (hT.1 [] 6 (D + 4) 261 _ κ (o1))
theorem zb261_28 (hT : zRules T) {D : Nat} {κ : Option zA → zM → Prop} {m : zM} {c : Nat} {v : Int} {lo : zL} (hlo : z_keep [0] lo = [(0, zr 74)])  (hB : zB m) (h_c : c ≤ 7) (h_v : 0 ≤ v ∧ v ≤ 99) 
    (k1 : T (D + 3) 226 (0, [(0, zr 74), (1, zr 91), (2, zi (c : Int)), (3, zi v)], [], m) (fun r m1 => T (D + 4) 261 (31, [(0, zr 74)], r.toList ++ [], m1) κ)) :
    T (D + 4) 261 (28, lo, [zi v, zi (c : Int), zr 91, zr 74], m) κ := by
  exact zb261_28r hT hlo
    k1
theorem zb261_31r (hT : zRules T) {D : Nat} {κ : Option zA → zM → Prop} {m : zM} {lo : zL} (hlo : z_keep [0] lo = [(0, zr 74)]) 
    (o1 : κ (some (zi (wr (wr (((m 79 1) * (m 74 31)) + ((m 79 2) * (m 74 32))))))) m) :
    T (D + 4) 261 (31, lo, [], m) κ :=
  zkeep hT hlo (hT.1 [] 6 (D + 4) 261 _ κ (hT.1 [] 6 (D + 3) 225 _ _ (And.intro (z_ixL rfl) (hT.1 [] 6 (D + 3) 225 (10, [(0, zr 74)], [zi (m 74 31), zi (m 79 1)], m) _ (And.intro (z_ixL rfl) (hT.1 [] 6 (D + 3) 225 (18, [(0, zr 74)], [zr 74, zi (m 79 2), zi ((m 79 1) * (m 74 31))], m) _ (hT.1 [] 6 (D + 4) 261 _ _ (o1))))))))
theorem zb261_31 (hT : zRules T) {D : Nat} {κ : Option zA → zM → Prop} {m : zM} {lo : zL} (hlo : z_keep [0] lo = [(0, zr 74)])  (hB : zB m) 
    (k1 : κ (some (zi (wr (((m 79 1) * (m 74 31)) + ((m 79 2) * (m 74 32)))))) m) :
    T (D + 4) 261 (31, lo, [], m) κ := by
  have hb0 : 0 ≤ (m 79 1) ∧ (m 79 1) ≤ 9 := hB 79 1
  have hb1 : 0 ≤ (m 79 2) ∧ (m 79 2) ≤ 9 := hB 79 2
  have hb2 : (-2147483648) ≤ wr (((m 79 1) * (m 74 31)) + ((m 79 2) * (m 74 32))) ∧ wr (((m 79 1) * (m 74 31)) + ((m 79 2) * (m 74 32))) ≤ 2147483647 := wrB (((m 79 1) * (m 74 31)) + ((m 79 2) * (m 74 32)))
  have he0 : wr (wr (((m 79 1) * (m 74 31)) + ((m 79 2) * (m 74 32)))) = wr (((m 79 1) * (m 74 31)) + ((m 79 2) * (m 74 32))) := wr_id (by omega) (by omega)
  have key := @zb261_31r T hT D κ m  lo hlo
  simp only [he0, Int.toNat_natCast] at key
  exact key
    k1
theorem zb141_0r (hT : zRules T) {D : Nat} {κ : Option zA → zM → Prop} {m : zM} {p : Int} {n : Int} {v : Int} 
    (o1 : wr p < 0 → κ (some (zi (-1))) m)
    (o2 : ¬ wr p < 0 → ¬ wr p < wr (m 17 0) → κ (some (zi (-1))) m)
    (o3 : ¬ wr p < 0 → wr p < wr (m 17 0) → wr n < 1 → κ (some (zi (-1))) m)
    (o4 : ¬ wr p < 0 → wr p < wr (m 17 0) → ¬ wr n < 1 → 20 < wr n → κ (some (zi (-1))) m)
    (o5 : ¬ wr p < 0 → wr p < wr (m 17 0) → ¬ wr n < 1 → ¬ 20 < wr n → wr v < 0 → κ (some (zi (-1))) m)
    (o6 : ¬ wr p < 0 → wr p < wr (m 17 0) → ¬ wr n < 1 → ¬ 20 < wr n → ¬ wr v < 0 → ¬ wr (wr (m 24 0)) < wr v → (0 ≤ wr p ∧ wr p < 6))
    (o7 : ¬ wr p < 0 → wr p < wr (m 17 0) → ¬ wr n < 1 → ¬ 20 < wr n → ¬ wr v < 0 → ¬ wr (wr (m 24 0)) < wr v → T (D + 5) 180 (0, [(0, zr 1), (1, zi p), (2, zi (m 19 ((wr p).toNat))), (3, zi n)], [], m) (fun r m1 => T (D + 6) 141 (54, [(0, zr 1), (1, zi p), (2, zi n), (3, zi v)], r.toList ++ [], m1) κ))
    (o8 : ¬ wr p < 0 → wr p < wr (m 17 0) → ¬ wr n < 1 → ¬ 20 < wr n → ¬ wr v < 0 → wr (wr (m 24 0)) < wr v → κ (some (zi (-1))) m) :
    T (D + 6) 141 (0, [(0, zr 1), (1, zi p), (2, zi n), (3, zi v)], [], m) κ :=
  hT.1 [] 6 (D + 6) 141 _ κ (hT.1 [] 6 (D + 5) 25 _ _ (And.intro (fun a1 => (And.intro (z_b01L rfl) (hT.1 [] 6 (D + 6) 141 _ _ (And.intro (fun _ => (o1 a1)) (fun a3 => (a3 (z_litT rfl)).elim))))) (fun a2 => (And.intro (fun a4 => (hT.1 [] 6 (D + 5) 25 (16, [(0, zr 17), (1, zi p)], [], m) _ (And.intro (z_b01L rfl) (hT.1 [] 6 (D + 6) 141 _ _ (And.intro (fun _ => (o2 a2 a4)) (fun a6 => (a6 (z_litT rfl)).elim)))))) (fun a5 => (hT.1 [] 6 (D + 5) 25 (12, [(0, zr 17), (1, zi p)], [], m) _ (And.intro (z_b01L rfl) (hT.1 [] 6 (D + 6) 141 _ _ (And.intro (fun a7 => (z_litF a7 rfl).elim) (fun _ => (And.intro (fun a8 => (o3 a2 (Classical.byContradiction a5) a8)) (fun a9 => (hT.1 [] 6 (D + 6) 141 (19, [(0, zr 1), (1, zi p), (2, zi n), (3, zi v)], [zi 20, zi n], m) _ (And.intro (fun a10 => (o4 a2 (Classical.byContradiction a5) a9 a10)) (fun a11 => (And.intro (fun a12 => (o5 a2 (Classical.byContradiction a5) a9 a11 a12)) (fun a13 => (hT.1 [] 6 (D + 6) 141 (31, [(0, zr 1), (1, zi p), (2, zi n), (3, zi v)], [zr 17, zi v], m) _ (hT.1 [] 6 (D + 5) 27 _ _ (And.intro (z_ixL rfl) (hT.1 [] 6 (D + 6) 141 _ _ (And.intro (fun a14 => (hT.1 [] 6 (D + 6) 141 (48, [(0, zr 1), (1, zi p), (2, zi n), (3, zi v)], [zr 19, zi p, zr 1], m) _ (And.intro (o6 a2 (Classical.byContradiction a5) a9 a11 a13 a14) (o7 a2 (Classical.byContradiction a5) a9 a11 a13 a14)))) (fun a15 => (o8 a2 (Classical.byContradiction a5) a9 a11 a13 (Classical.byContradiction a15)))))))))))))))))))))))))
theorem zb141_0 (hT : zRules T) {D : Nat} {κ : Option zA → zM → Prop} {m : zM} {p : Int} {n : Int} {v : Int}  (hB : zB m) (h_p : (-2147483648) ≤ p ∧ p ≤ 2147483647) (h_n : (-2147483648) ≤ n ∧ n ≤ 2147483647) (h_v : (-2147483648) ≤ v ∧ v ≤ 2147483647) 
    (k1 : p < 0 → κ (some (zi (-1))) m)
    (k2 : ¬ p < 0 → ¬ p < (m 17 0) → κ (some (zi (-1))) m)
    (k3 : ¬ p < 0 → p < (m 17 0) → n < 1 → κ (some (zi (-1))) m)
    (k4 : ¬ p < 0 → p < (m 17 0) → ¬ n < 1 → 20 < n → κ (some (zi (-1))) m)
    (k5 : ¬ p < 0 → p < (m 17 0) → ¬ n < 1 → ¬ 20 < n → v < 0 → κ (some (zi (-1))) m)
    (k6 : ¬ p < 0 → p < (m 17 0) → ¬ n < 1 → ¬ 20 < n → ¬ v < 0 → ¬ (m 24 0) < v → T (D + 5) 180 (0, [(0, zr 1), (1, zi p), (2, zi (m 19 (p.toNat))), (3, zi n)], [], m) (fun r m1 => T (D + 6) 141 (54, [(0, zr 1), (1, zi p), (2, zi n), (3, zi v)], r.toList ++ [], m1) κ))
    (k7 : ¬ p < 0 → p < (m 17 0) → ¬ n < 1 → ¬ 20 < n → ¬ v < 0 → (m 24 0) < v → κ (some (zi (-1))) m) :
    T (D + 6) 141 (0, [(0, zr 1), (1, zi p), (2, zi n), (3, zi v)], [], m) κ := by
  have hb3 : 0 ≤ (m 17 0) ∧ (m 17 0) ≤ 6 := hB 17 0
  have hb4 : 0 ≤ (m 24 0) ∧ (m 24 0) ≤ 9 := hB 24 0
  have hb5 : (-1) ≤ (m 19 (p.toNat)) ∧ (m 19 (p.toNat)) ≤ 3 := hB 19 (p.toNat)
  have he0 : wr p = p := wr_id (by omega) (by omega)
  have he1 : wr (m 17 0) = (m 17 0) := wr_id (by omega) (by omega)
  have he2 : wr n = n := wr_id (by omega) (by omega)
  have he3 : wr v = v := wr_id (by omega) (by omega)
  have he4 : wr (m 24 0) = (m 24 0) := wr_id (by omega) (by omega)
  have key := @zb141_0r T hT D κ m p n v
  simp only [he0, he1, he2, he3, he4, Int.toNat_natCast] at key
  exact key
    k1
    k2
    k3
    k4
    k5
    (fun x0 x1 x2 x3 x4 x5 => by refine ⟨?_, ?_⟩ <;> omega)
    k6
    k7
theorem zb141_54r (hT : zRules T) {D : Nat} {κ : Option zA → zM → Prop} {m : zM} {v : Int} {lo : zL} (hlo : z_keep [0, 3] lo = [(0, zr 1), (3, zi v)]) 
    (o1 : T (D + 5) 87 (0, [(0, zr 52), (1, zr 17), (2, zi v)], [], (zu (zu (zu m 17 12 0) 17 13 0) 17 14 0)) (fun r m1 => T (D + 6) 141 (73, [(0, zr 1), (3, zi v)], r.toList ++ [], m1) κ)) :
    T (D + 6) 141 (54, lo, [], m) κ :=
  zkeep hT hlo (hT.1 [] 6 (D + 6) 141 _ κ (hT.1 [] 6 (D + 5) 35 _ _ (And.intro trivial (And.intro trivial (hT.1 [] 6 (D + 5) 35 (10, [(0, zr 17)], [], (zu (zu m 17 12 0) 17 13 0)) _ (And.intro trivial (hT.1 [] 6 (D + 6) 141 _ _ (o1))))))))
theorem zb141_54 (hT : zRules T) {D : Nat} {κ : Option zA → zM → Prop} {m : zM} {v : Int} {lo : zL} (hlo : z_keep [0, 3] lo = [(0, zr 1), (3, zi v)])  (hB : zB m) (h_v : 0 ≤ v ∧ v ≤ 9) 
    (k1 : zB (zu (zu (zu m 17 12 0) 17 13 0) 17 14 0) → T (D + 5) 87 (0, [(0, zr 52), (1, zr 17), (2, zi v)], [], (zu (zu (zu m 17 12 0) 17 13 0) 17 14 0)) (fun r m1 => T (D + 6) 141 (73, [(0, zr 1), (3, zi v)], r.toList ++ [], m1) κ)) :
    T (D + 6) 141 (54, lo, [], m) κ := by
  exact zb141_54r hT hlo
    (k1  (zB_u (zB_u (zB_u hB trivial) trivial) trivial))
theorem zb141_73r (hT : zRules T) {D : Nat} {κ : Option zA → zM → Prop} {m : zM} {lo : zL} (hlo : z_keep [0] lo = [(0, zr 1)]) 
    (o1 : κ (some (zi (wr (wr (wr (((m 17 12) * (m 24 1)) + ((m 17 13) * (m 24 2)))))))) (zu (zu (zu m 72 1 2) 73 0 (m 17 12)) 73 1 (m 17 13))) :
    T (D + 6) 141 (73, lo, [], m) κ :=
  zkeep hT hlo (hT.1 [] 6 (D + 6) 141 _ κ (hT.1 [] 6 (D + 6) 141 (85, [(0, zr 1)], [zr 1, zi (m 17 12), zr 72], m) _ (hT.1 [] 6 (D + 5) 46 _ _ (And.intro trivial (hT.1 [] 6 (D + 5) 46 (10, [(0, zr 72), (1, zi (m 17 12)), (2, zi (m 17 13))], [zi 0, zr 73], (zu m 72 1 2)) _ (And.intro (And.intro (z_ixL rfl) trivial) (hT.1 [] 6 (D + 5) 46 (18, [(0, zr 72), (1, zi (m 17 12)), (2, zi (m 17 13))], [zi (m 17 13), zi 1, zr 73], (zu (zu m 72 1 2) 73 0 (m 17 12))) _ (And.intro (And.intro (z_ixL rfl) trivial) (hT.1 [] 6 (D + 6) 141 _ _ (hT.1 [] 6 (D + 5) 36 _ _ (hT.1 [] 6 (D + 4) 33 _ _ (And.intro (z_ixL rfl) (hT.1 [] 6 (D + 4) 33 (8, [(0, zr 17), (1, zi (m 17 12)), (2, zi (m 17 13))], [zi ((m 17 12) * (m 24 1))], (zu (zu (zu m 72 1 2) 73 0 (m 17 12)) 73 1 (m 17 13))) _ (And.intro (z_ixL rfl) (hT.1 [] 6 (D + 4) 33 (16, [(0, zr 17), (1, zi (m 17 12)), (2, zi (m 17 13))], [zi ((m 17 13) * (m 24 2)), zi ((m 17 12) * (m 24 1))], (zu (zu (zu m 72 1 2) 73 0 (m 17 12)) 73 1 (m 17 13))) _ (hT.1 [] 6 (D + 5) 36 _ _ (hT.1 [] 6 (D + 6) 141 _ _ (o1))))))))))))))))))
theorem zb141_73 (hT : zRules T) {D : Nat} {κ : Option zA → zM → Prop} {m : zM} {lo : zL} (hlo : z_keep [0] lo = [(0, zr 1)])  (hB : zB m) 
    (k1 : zB (zu (zu (zu m 72 1 2) 73 0 (m 17 12)) 73 1 (m 17 13)) → κ (some (zi (wr (((m 17 12) * (m 24 1)) + ((m 17 13) * (m 24 2)))))) (zu (zu (zu m 72 1 2) 73 0 (m 17 12)) 73 1 (m 17 13))) :
    T (D + 6) 141 (73, lo, [], m) κ := by
  have hb0 : 0 ≤ (m 24 1) ∧ (m 24 1) ≤ 9 := hB 24 1
  have hb1 : 0 ≤ (m 24 2) ∧ (m 24 2) ≤ 9 := hB 24 2
  have hb2 : (-2147483648) ≤ wr (((m 17 12) * (m 24 1)) + ((m 17 13) * (m 24 2))) ∧ wr (((m 17 12) * (m 24 1)) + ((m 17 13) * (m 24 2))) ≤ 2147483647 := wrB (((m 17 12) * (m 24 1)) + ((m 17 13) * (m 24 2)))
  have he0 : wr (wr (((m 17 12) * (m 24 1)) + ((m 17 13) * (m 24 2)))) = wr (((m 17 12) * (m 24 1)) + ((m 17 13) * (m 24 2))) := wr_id (by omega) (by omega)
  have key := @zb141_73r T hT D κ m  lo hlo
  simp only [he0, Int.toNat_natCast] at key
  exact key
    (k1  (zB_u (zB_u (zB_u hB (show 0 ≤ 2 ∧ 2 ≤ 26 from ⟨by omega, by omega⟩)) trivial) trivial))
theorem zb87_0r (hT : zRules T) {D : Nat} {κ : Option zA → zM → Prop} {m : zM} {h : Int} 
    (o1 : T (D + 3) 87 (17, [(0, zr 52), (1, zr 17), (3, zi ((m 53 0) + h)), (4, zi 1)], [], (zu m 17 12 ((m 53 0) + h))) κ) :
    T (D + 3) 87 (0, [(0, zr 52), (1, zr 17), (2, zi h)], [], m) κ :=
  hT.1 [(17, [0, 1, 3, 4])] 6 (D + 3) 87 _ κ (And.intro (z_ixL rfl) (hT.1 [(17, [0, 1, 3, 4])] 6 (D + 3) 87 (8, [(0, zr 52), (1, zr 17), (2, zi h)], [zi ((m 53 0) + h)], m) _ (And.intro trivial (o1))))
theorem zb87_0 (hT : zRules T) {D : Nat} {κ : Option zA → zM → Prop} {m : zM} {h : Int}  (hB : zB m) (h_h : 0 ≤ h ∧ h ≤ 9) 
    (k1 : zB (zu m 17 12 ((m 53 0) + h)) → T (D + 3) 87 (17, [(0, zr 52), (1, zr 17), (3, zi ((m 53 0) + h)), (4, zi 1)], [], (zu m 17 12 ((m 53 0) + h))) κ) :
    T (D + 3) 87 (0, [(0, zr 52), (1, zr 17), (2, zi h)], [], m) κ := by
  have hb1 : 0 ≤ (m 53 0) ∧ (m 53 0) ≤ 99 := hB 53 0
  exact zb87_0r hT
    (k1  (zB_u hB trivial))
theorem zb87_17r (hT : zRules T) {D : Nat} {κ : Option zA → zM → Prop} {m : zM} {a : Int} {k : Nat} {lo : zL} (hlo : z_keep [0, 1, 3, 4] lo = [(0, zr 52), (1, zr 17), (3, zi a), (4, zi (k : Int))]) 
    (o1 : ¬ wr (k : Int) < wr (m 52 1) → κ (none) m)
    (o2 : wr (k : Int) < wr (m 52 1) → (0 ≤ wr (k : Int) ∧ wr (k : Int) < 60))
    (o3 : wr (k : Int) < wr (m 52 1) → (0 ≤ wr ((k : Int) - 1) ∧ wr ((k : Int) - 1) < 60))
    (o4 : wr (k : Int) < wr (m 52 1) → ¬ wr (m 53 ((wr ((k : Int) - 1)).toNat)) = wr (m 53 ((wr (k : Int)).toNat)) → ¬ wr a < wr (m 53 ((wr (k : Int)).toNat)) → wr ((m 53 ((wr (k : Int)).toNat)) + wr (m 24 0)) < wr a → T (D + 3) 87 (17, [(0, zr 52), (1, zr 17), (3, zi ((m 53 ((wr (k : Int)).toNat)) + wr (m 24 0))), (4, zi ((k : Int) + 1))], [], (zu m 17 13 ((m 17 13) + 2))) κ)
    (o5 : wr (k : Int) < wr (m 52 1) → ¬ wr (m 53 ((wr ((k : Int) - 1)).toNat)) = wr (m 53 ((wr (k : Int)).toNat)) → ¬ wr a < wr (m 53 ((wr (k : Int)).toNat)) → ¬ wr ((m 53 ((wr (k : Int)).toNat)) + wr (m 24 0)) < wr a → T (D + 3) 87 (17, [(0, zr 52), (1, zr 17), (3, zi a), (4, zi ((k : Int) + 1))], [], (zu m 17 13 ((m 17 13) + 1))) κ)
    (o6 : wr (k : Int) < wr (m 52 1) → ¬ wr (m 53 ((wr ((k : Int) - 1)).toNat)) = wr (m 53 ((wr (k : Int)).toNat)) → wr a < wr (m 53 ((wr (k : Int)).toNat)) → T (D + 3) 87 (17, [(0, zr 52), (1, zr 17), (3, zi (m 53 ((wr (k : Int)).toNat))), (4, zi ((k : Int) + 1))], [], (zu (zu m 17 13 ((m 17 13) + 3)) 17 12 ((m 17 12) + ((m 53 ((wr (k : Int)).toNat)) - a)))) κ)
    (o7 : wr (k : Int) < wr (m 52 1) → wr (m 53 ((wr ((k : Int) - 1)).toNat)) = wr (m 53 ((wr (k : Int)).toNat)) → T (D + 3) 87 (17, [(0, zr 52), (1, zr 17), (3, zi a), (4, zi ((k : Int) + 1))], [], (zu m 17 13 ((m 17 13) + 0))) κ) :
    T (D + 3) 87 (17, lo, [], m) κ :=
  zkeep hT hlo (hT.1 [(17, [0, 1, 3, 4])] 6 (D + 3) 87 _ κ (And.intro (fun a1 => (o1 a1)) (fun a2 => (hT.1 [(17, [0, 1, 3, 4])] 6 (D + 3) 87 (30, [(0, zr 52), (1, zr 17), (3, zi a), (4, zi (k : Int))], [zr 53], m) _ (And.intro (o2 (Classical.byContradiction a2)) (hT.1 [(17, [0, 1, 3, 4])] 6 (D + 3) 87 (40, [(0, zr 52), (1, zr 17), (3, zi a), (4, zi (k : Int)), (5, zi (m 53 ((wr (k : Int)).toNat)))], [zr 53, zr 17], m) _ (And.intro (o3 (Classical.byContradiction a2)) (hT.1 [(17, [0, 1, 3, 4])] 6 (D + 3) 87 (48, [(0, zr 52), (1, zr 17), (3, zi a), (4, zi (k : Int)), (5, zi (m 53 ((wr (k : Int)).toNat)))], [zi (m 53 ((wr (k : Int)).toNat)), zi a, zi (m 53 ((wr ((k : Int) - 1)).toNat)), zr 17], m) _ (hT.1 [] 6 (D + 2) 32 _ _ (And.intro (fun a3 => (And.intro (fun a5 => (hT.1 [] 6 (D + 2) 32 (14, [(0, zr 17), (1, zi (m 53 ((wr ((k : Int) - 1)).toNat))), (2, zi a), (3, zi (m 53 ((wr (k : Int)).toNat)))], [], m) _ (hT.1 [] 6 (D + 1) 27 _ _ (And.intro (z_ixL rfl) (hT.1 [] 6 (D + 2) 32 _ _ (And.intro (fun a7 => (hT.1 [(17, [0, 1, 3, 4])] 6 (D + 3) 87 _ _ (hT.1 [(17, [0, 1, 3, 4])] 6 (D + 3) 87 (61, [(0, zr 52), (1, zr 17), (3, zi a), (4, zi (k : Int)), (5, zi (m 53 ((wr (k : Int)).toNat))), (6, zi 2)], [zi ((m 17 13) + 2), zr 17], m) _ (And.intro trivial (And.intro (fun _ => (hT.1 [(17, [0, 1, 3, 4])] 6 (D + 3) 87 (89, [(0, zr 52), (1, zr 17), (3, zi a), (4, zi (k : Int)), (5, zi (m 53 ((wr (k : Int)).toNat))), (6, zi 2)], [zi 2, zi 2], (zu m 17 13 ((m 17 13) + 2))) _ (And.intro (fun a10 => (z_litF a10 rfl).elim) (fun _ => (hT.1 [] 6 (D + 2) 27 _ _ (And.intro (z_ixL rfl) (hT.1 [(17, [0, 1, 3, 4])] 6 (D + 3) 87 _ _ (o4 (Classical.byContradiction a2) a3 a5 a7)))))))) (fun a9 => (a9 (z_litT rfl)).elim)))))) (fun a8 => (hT.1 [(17, [0, 1, 3, 4])] 6 (D + 3) 87 _ _ (hT.1 [(17, [0, 1, 3, 4])] 6 (D + 3) 87 (61, [(0, zr 52), (1, zr 17), (3, zi a), (4, zi (k : Int)), (5, zi (m 53 ((wr (k : Int)).toNat))), (6, zi 1)], [zi ((m 17 13) + 1), zr 17], m) _ (And.intro trivial (And.intro (fun _ => (hT.1 [(17, [0, 1, 3, 4])] 6 (D + 3) 87 (89, [(0, zr 52), (1, zr 17), (3, zi a), (4, zi (k : Int)), (5, zi (m 53 ((wr (k : Int)).toNat))), (6, zi 1)], [zi 2, zi 1], (zu m 17 13 ((m 17 13) + 1))) _ (And.intro (fun _ => (o5 (Classical.byContradiction a2) a3 a5 a8)) (fun a12 => (a12 (z_litT rfl)).elim)))) (fun a11 => (a11 (z_litT rfl)).elim)))))))))))) (fun a6 => (hT.1 [] 6 (D + 2) 32 (12, [(0, zr 17), (1, zi (m 53 ((wr ((k : Int) - 1)).toNat))), (2, zi a), (3, zi (m 53 ((wr (k : Int)).toNat)))], [], m) _ (hT.1 [(17, [0, 1, 3, 4])] 6 (D + 3) 87 _ _ (hT.1 [(17, [0, 1, 3, 4])] 6 (D + 3) 87 (61, [(0, zr 52), (1, zr 17), (3, zi a), (4, zi (k : Int)), (5, zi (m 53 ((wr (k : Int)).toNat))), (6, zi 3)], [zi ((m 17 13) + 3), zr 17], m) _ (And.intro trivial (And.intro (fun a13 => (z_litF a13 rfl).elim) (fun _ => (hT.1 [(17, [0, 1, 3, 4])] 6 (D + 3) 87 (72, [(0, zr 52), (1, zr 17), (3, zi a), (4, zi (k : Int)), (5, zi (m 53 ((wr (k : Int)).toNat))), (6, zi 3)], [zr 17, zr 17], (zu m 17 13 ((m 17 13) + 3))) _ (And.intro trivial (hT.1 [(17, [0, 1, 3, 4])] 6 (D + 3) 87 (83, [(0, zr 52), (1, zr 17), (3, zi a), (4, zi (k : Int)), (5, zi (m 53 ((wr (k : Int)).toNat))), (6, zi 3)], [], (zu (zu m 17 13 ((m 17 13) + 3)) 17 12 ((m 17 12) + ((m 53 ((wr (k : Int)).toNat)) - a)))) _ (And.intro (fun _ => (hT.1 [(17, [0, 1, 3, 4])] 6 (D + 3) 87 (103, [(0, zr 52), (1, zr 17), (3, zi (m 53 ((wr (k : Int)).toNat))), (4, zi ((k : Int) + 1)), (5, zi (m 53 ((wr (k : Int)).toNat))), (6, zi 3)], [], (zu (zu m 17 13 ((m 17 13) + 3)) 17 12 ((m 17 12) + ((m 53 ((wr (k : Int)).toNat)) - a)))) _ (o6 (Classical.byContradiction a2) a3 (Classical.byContradiction a6)))) (fun a14 => (a14 (z_litT rfl)).elim)))))))))))))) (fun a4 => (hT.1 [(17, [0, 1, 3, 4])] 6 (D + 3) 87 _ _ (hT.1 [(17, [0, 1, 3, 4])] 6 (D + 3) 87 (61, [(0, zr 52), (1, zr 17), (3, zi a), (4, zi (k : Int)), (5, zi (m 53 ((wr (k : Int)).toNat))), (6, zi 0)], [zi ((m 17 13) + 0), zr 17], m) _ (And.intro trivial (And.intro (fun _ => (hT.1 [(17, [0, 1, 3, 4])] 6 (D + 3) 87 (89, [(0, zr 52), (1, zr 17), (3, zi a), (4, zi (k : Int)), (5, zi (m 53 ((wr (k : Int)).toNat))), (6, zi 0)], [zi 2, zi 0], (zu m 17 13 ((m 17 13) + 0))) _ (And.intro (fun _ => (o7 (Classical.byContradiction a2) (Classical.byContradiction a4))) (fun a16 => (a16 (z_litT rfl)).elim)))) (fun a15 => (a15 (z_litT rfl)).elim))))))))))))))))
theorem zb87_17 (hT : zRules T) {D : Nat} {κ : Option zA → zM → Prop} {m : zM} {a : Int} {k : Nat} {lo : zL} (hlo : z_keep [0, 1, 3, 4] lo = [(0, zr 52), (1, zr 17), (3, zi a), (4, zi (k : Int))])  (hB : zB m) (h_a : 0 ≤ a ∧ a ≤ 108) (h_k : k ≤ 60) 
    (k1 : ¬ (k : Int) < (m 52 1) → κ (none) m)
    (k2 : (k : Int) < (m 52 1) → (0 ≤ ((k : Int) - 1) ∧ ((k : Int) - 1) < 60))
    (k3 : (k : Int) < (m 52 1) → ¬ (m 53 (((k : Int) - 1).toNat)) = (m 53 k) → ¬ a < (m 53 k) → ((m 53 k) + (m 24 0)) < a → zB (zu m 17 13 ((m 17 13) + 2)) → T (D + 3) 87 (17, [(0, zr 52), (1, zr 17), (3, zi ((m 53 k) + (m 24 0))), (4, zi ((k : Int) + 1))], [], (zu m 17 13 ((m 17 13) + 2))) κ)
    (k4 : (k : Int) < (m 52 1) → ¬ (m 53 (((k : Int) - 1).toNat)) = (m 53 k) → ¬ a < (m 53 k) → ¬ ((m 53 k) + (m 24 0)) < a → zB (zu m 17 13 ((m 17 13) + 1)) → T (D + 3) 87 (17, [(0, zr 52), (1, zr 17), (3, zi a), (4, zi ((k : Int) + 1))], [], (zu m 17 13 ((m 17 13) + 1))) κ)
    (k5 : (k : Int) < (m 52 1) → ¬ (m 53 (((k : Int) - 1).toNat)) = (m 53 k) → a < (m 53 k) → zB (zu (zu m 17 13 ((m 17 13) + 3)) 17 12 ((m 17 12) + ((m 53 k) - a))) → T (D + 3) 87 (17, [(0, zr 52), (1, zr 17), (3, zi (m 53 k)), (4, zi ((k : Int) + 1))], [], (zu (zu m 17 13 ((m 17 13) + 3)) 17 12 ((m 17 12) + ((m 53 k) - a)))) κ)
    (k6 : (k : Int) < (m 52 1) → (m 53 (((k : Int) - 1).toNat)) = (m 53 k) → zB (zu m 17 13 ((m 17 13) + 0)) → T (D + 3) 87 (17, [(0, zr 52), (1, zr 17), (3, zi a), (4, zi ((k : Int) + 1))], [], (zu m 17 13 ((m 17 13) + 0))) κ) :
    T (D + 3) 87 (17, lo, [], m) κ := by
  have hb2 : 0 ≤ (m 52 1) ∧ (m 52 1) ≤ 60 := hB 52 1
  have hb3 : 0 ≤ (m 53 k) ∧ (m 53 k) ≤ 99 := hB 53 k
  have hb4 : 0 ≤ (m 53 (((k : Int) - 1).toNat)) ∧ (m 53 (((k : Int) - 1).toNat)) ≤ 99 := hB 53 (((k : Int) - 1).toNat)
  have hb5 : 0 ≤ (m 24 0) ∧ (m 24 0) ≤ 9 := hB 24 0
  have he0 : wr (k : Int) = (k : Int) := wr_id (by omega) (by omega)
  have he1 : wr (m 52 1) = (m 52 1) := wr_id (by omega) (by omega)
  have he2 : (k : Int).toNat = k := by omega
  have he3 : wr ((k : Int) - 1) = ((k : Int) - 1) := wr_id (by omega) (by omega)
  have he4 : wr (m 53 (((k : Int) - 1).toNat)) = (m 53 (((k : Int) - 1).toNat)) := wr_id (by omega) (by omega)
  have he5 : wr (m 53 k) = (m 53 k) := wr_id (by omega) (by omega)
  have he6 : wr a = a := wr_id (by omega) (by omega)
  have he7 : wr (m 24 0) = (m 24 0) := wr_id (by omega) (by omega)
  have he8 : wr ((m 53 k) + (m 24 0)) = ((m 53 k) + (m 24 0)) := wr_id (by omega) (by omega)
  have key := @zb87_17r T hT D κ m a k lo hlo
  simp only [he0, he1, he2, he3, he4, he5, he6, he7, he8, Int.toNat_natCast] at key
  exact key
    k1
    (fun x0 => by refine ⟨?_, ?_⟩ <;> omega)
    k2
    (fun x0 x1 x2 x3 => k3 x0 x1 x2 x3 (zB_u hB trivial))
    (fun x0 x1 x2 x3 => k4 x0 x1 x2 x3 (zB_u hB trivial))
    (fun x0 x1 x2 => k5 x0 x1 x2 (zB_u (zB_u hB trivial) trivial))
    (fun x0 x1 => k6 x0 x1 (zB_u hB trivial))
theorem zb259_0r (hT : zRules T) {D : Nat} {κ : Option zA → zM → Prop} {m : zM} {p : Int} {n : Int} {v : Int} 
    (o1 : wr p < 0 → κ (some (zi (-1))) (zu m 74 12 0))
    (o2 : ¬ wr p < 0 → wr ((m 74 4) - 1) < wr p → κ (some (zi (-1))) (zu m 74 12 0))
    (o3 : ¬ wr p < 0 → ¬ wr ((m 74 4) - 1) < wr p → wr n < 1 → κ (some (zi (-1))) (zu m 74 12 0))
    (o4 : ¬ wr p < 0 → ¬ wr ((m 74 4) - 1) < wr p → ¬ wr n < 1 → 20 < wr n → κ (some (zi (-1))) (zu m 74 12 0))
    (o5 : ¬ wr p < 0 → ¬ wr ((m 74 4) - 1) < wr p → ¬ wr n < 1 → ¬ 20 < wr n → wr v < 0 → κ (some (zi (-1))) (zu m 74 12 0))
    (o6 : ¬ wr p < 0 → ¬ wr ((m 74 4) - 1) < wr p → ¬ wr n < 1 → ¬ 20 < wr n → ¬ wr v < 0 → wr (m 79 0) < wr v → κ (some (zi (-1))) (zu m 74 12 0))
    (o7 : ¬ wr p < 0 → ¬ wr ((m 74 4) - 1) < wr p → ¬ wr n < 1 → ¬ 20 < wr n → ¬ wr v < 0 → ¬ wr (m 79 0) < wr v → T (D + 3) 228 (0, [(0, zr 75), (1, zr 91), (2, zi 0)], [], (zu m 74 12 0)) (fun r m1 => T (D + 4) 259 (51, [(0, zr 74), (1, zi p), (2, zi n), (3, zi v)], r.toList ++ [], m1) κ)) :
    T (D + 4) 259 (0, [(0, zr 74), (1, zi p), (2, zi n), (3, zi v)], [], m) κ :=
  hT.1 [(92, [0, 1, 2, 4])] 6 (D + 4) 259 _ κ (And.intro trivial (hT.1 [] 6 (D + 3) 190 _ _ (hT.1 [] 6 (D + 3) 190 (8, [(0, zr 74), (1, zi p)], [zi ((m 74 4) - 1), zi 0, zi p], (zu m 74 12 0)) _ (hT.1 [] 6 (D + 2) 186 _ _ (And.intro (fun a1 => (And.intro (z_b01L rfl) (hT.1 [] 6 (D + 3) 190 _ _ (And.intro (z_b01L rfl) (hT.1 [(92, [0, 1, 2, 4])] 6 (D + 4) 259 _ _ (And.intro (fun _ => (o1 a1)) (fun a3 => (a3 (z_litT rfl)).elim))))))) (fun a2 => (And.intro (fun a4 => (hT.1 [] 6 (D + 2) 186 (14, [(0, zi p), (1, zi 0), (2, zi ((m 74 4) - 1))], [], (zu m 74 12 0)) _ (And.intro (z_b01L rfl) (hT.1 [] 6 (D + 3) 190 _ _ (And.intro (z_b01L rfl) (hT.1 [(92, [0, 1, 2, 4])] 6 (D + 4) 259 _ _ (And.intro (fun _ => (o2 a2 a4)) (fun a6 => (a6 (z_litT rfl)).elim)))))))) (fun a5 => (hT.1 [] 6 (D + 2) 186 (10, [(0, zi p), (1, zi 0), (2, zi ((m 74 4) - 1))], [], (zu m 74 12 0)) _ (And.intro (z_b01L rfl) (hT.1 [] 6 (D + 3) 190 _ _ (And.intro (z_b01L rfl) (hT.1 [(92, [0, 1, 2, 4])] 6 (D + 4) 259 _ _ (And.intro (fun a7 => (z_litF a7 rfl).elim) (fun _ => (hT.1 [] 6 (D + 3) 186 _ _ (And.intro (fun a8 => (And.intro (z_b01L rfl) (hT.1 [(92, [0, 1, 2, 4])] 6 (D + 4) 259 _ _ (And.intro (fun _ => (o3 a2 a5 a8)) (fun a10 => (a10 (z_litT rfl)).elim))))) (fun a9 => (And.intro (fun a11 => (hT.1 [] 6 (D + 3) 186 (14, [(0, zi n), (1, zi 1), (2, zi 20)], [], (zu m 74 12 0)) _ (And.intro (z_b01L rfl) (hT.1 [(92, [0, 1, 2, 4])] 6 (D + 4) 259 _ _ (And.intro (fun _ => (o4 a2 a5 a9 a11)) (fun a13 => (a13 (z_litT rfl)).elim)))))) (fun a12 => (hT.1 [] 6 (D + 3) 186 (10, [(0, zi n), (1, zi 1), (2, zi 20)], [], (zu m 74 12 0)) _ (And.intro (z_b01L rfl) (hT.1 [(92, [0, 1, 2, 4])] 6 (D + 4) 259 _ _ (And.intro (fun a14 => (z_litF a14 rfl).elim) (fun _ => (hT.1 [(92, [0, 1, 2, 4])] 6 (D + 4) 259 (30, [(0, zr 74), (1, zi p), (2, zi n), (3, zi v)], [zi 0, zr 79, zi 0, zi v], (zu m 74 12 0)) _ (And.intro (z_ixL rfl) (hT.1 [] 6 (D + 3) 186 _ _ (And.intro (fun a15 => (And.intro (z_b01L rfl) (hT.1 [(92, [0, 1, 2, 4])] 6 (D + 4) 259 _ _ (And.intro (fun a17 => (z_litF a17 rfl).elim) (fun _ => (o5 a2 a5 a9 a12 a15)))))) (fun a16 => (And.intro (fun a18 => (hT.1 [] 6 (D + 3) 186 (14, [(0, zi v), (1, zi 0), (2, zi (m 79 0))], [], (zu m 74 12 0)) _ (And.intro (z_b01L rfl) (hT.1 [(92, [0, 1, 2, 4])] 6 (D + 4) 259 _ _ (And.intro (fun a20 => (z_litF a20 rfl).elim) (fun _ => (o6 a2 a5 a9 a12 a16 a18))))))) (fun a19 => (hT.1 [] 6 (D + 3) 186 (10, [(0, zi v), (1, zi 0), (2, zi (m 79 0))], [], (zu m 74 12 0)) _ (And.intro (z_b01L rfl) (hT.1 [(92, [0, 1, 2, 4])] 6 (D + 4) 259 _ _ (And.intro (fun _ => (hT.1 [(92, [0, 1, 2, 4])] 6 (D + 4) 259 (48, [(0, zr 74), (1, zi p), (2, zi n), (3, zi v)], [zi 0, zr 91, zr 75], (zu m 74 12 0)) _ (o7 a2 a5 a9 a12 a16 a19))) (fun a21 => (a21 (z_litT rfl)).elim)))))))))))))))))))))))))))))))))))))
theorem zb259_0 (hT : zRules T) {D : Nat} {κ : Option zA → zM → Prop} {m : zM} {p : Int} {n : Int} {v : Int}  (hB : zB m) (h_p : (-2147483648) ≤ p ∧ p ≤ 2147483647) (h_n : (-2147483648) ≤ n ∧ n ≤ 2147483647) (h_v : (-2147483648) ≤ v ∧ v ≤ 2147483647) 
    (k1 : p < 0 → zB (zu m 74 12 0) → κ (some (zi (-1))) (zu m 74 12 0))
    (k2 : ¬ p < 0 → ((m 74 4) - 1) < p → zB (zu m 74 12 0) → κ (some (zi (-1))) (zu m 74 12 0))
    (k3 : ¬ p < 0 → ¬ ((m 74 4) - 1) < p → n < 1 → zB (zu m 74 12 0) → κ (some (zi (-1))) (zu m 74 12 0))
    (k4 : ¬ p < 0 → ¬ ((m 74 4) - 1) < p → ¬ n < 1 → 20 < n → zB (zu m 74 12 0) → κ (some (zi (-1))) (zu m 74 12 0))
    (k5 : ¬ p < 0 → ¬ ((m 74 4) - 1) < p → ¬ n < 1 → ¬ 20 < n → v < 0 → zB (zu m 74 12 0) → κ (some (zi (-1))) (zu m 74 12 0))
    (k6 : ¬ p < 0 → ¬ ((m 74 4) - 1) < p → ¬ n < 1 → ¬ 20 < n → ¬ v < 0 → (m 79 0) < v → zB (zu m 74 12 0) → κ (some (zi (-1))) (zu m 74 12 0))
    (k7 : ¬ p < 0 → ¬ ((m 74 4) - 1) < p → ¬ n < 1 → ¬ 20 < n → ¬ v < 0 → ¬ (m 79 0) < v → zB (zu m 74 12 0) → T (D + 3) 228 (0, [(0, zr 75), (1, zr 91), (2, zi 0)], [], (zu m 74 12 0)) (fun r m1 => T (D + 4) 259 (51, [(0, zr 74), (1, zi p), (2, zi n), (3, zi v)], r.toList ++ [], m1) κ)) :
    T (D + 4) 259 (0, [(0, zr 74), (1, zi p), (2, zi n), (3, zi v)], [], m) κ := by
  have hb3 : 0 ≤ (m 74 4) ∧ (m 74 4) ≤ 6 := hB 74 4
  have hb4 : 0 ≤ (m 79 0) ∧ (m 79 0) ≤ 9 := hB 79 0
  have he0 : wr p = p := wr_id (by omega) (by omega)
  have he1 : wr ((m 74 4) - 1) = ((m 74 4) - 1) := wr_id (by omega) (by omega)
  have he2 : wr n = n := wr_id (by omega) (by omega)
  have he3 : wr v = v := wr_id (by omega) (by omega)
  have he4 : wr (m 79 0) = (m 79 0) := wr_id (by omega) (by omega)
  have key := @zb259_0r T hT D κ m p n v
  simp only [he0, he1, he2, he3, he4, Int.toNat_natCast] at key
  exact key
    (fun x0 => k1 x0 (zB_u hB trivial))
    (fun x0 x1 => k2 x0 x1 (zB_u hB trivial))
    (fun x0 x1 x2 => k3 x0 x1 x2 (zB_u hB trivial))
    (fun x0 x1 x2 x3 => k4 x0 x1 x2 x3 (zB_u hB trivial))
    (fun x0 x1 x2 x3 x4 => k5 x0 x1 x2 x3 x4 (zB_u hB trivial))
    (fun x0 x1 x2 x3 x4 x5 => k6 x0 x1 x2 x3 x4 x5 (zB_u hB trivial))
    (fun x0 x1 x2 x3 x4 x5 => k7 x0 x1 x2 x3 x4 x5 (zB_u hB trivial))
theorem zb259_51r (hT : zRules T) {D : Nat} {κ : Option zA → zM → Prop} {m : zM} {p : Nat} {n : Nat} {v : Int} {lo : zL} (hlo : z_keep [0, 1, 2, 3] lo = [(0, zr 74), (1, zi (p : Int)), (2, zi (n : Int)), (3, zi v)]) 
    (o1 : T (D + 3) 216 (0, [(0, zr 74), (1, zi (p : Int)), (2, zi 0)], [], (zu (zu (zu m 74 31 0) 74 32 0) 74 33 0)) (fun r m1 => T (D + 4) 259 (67, [(0, zr 74), (1, zi (p : Int)), (2, zi (n : Int)), (3, zi v)], r.toList ++ [zi 12, zr 91], m1) κ)) :
    T (D + 4) 259 (51, lo, [], m) κ :=
  zkeep hT hlo (hT.1 [(92, [0, 1, 2, 4])] 6 (D + 4) 259 _ κ (hT.1 [] 6 (D + 3) 224 _ _ (And.intro trivial (And.intro trivial (hT.1 [] 6 (D + 3) 224 (10, [(0, zr 74)], [], (zu (zu m 74 31 0) 74 32 0)) _ (And.intro trivial (hT.1 [(92, [0, 1, 2, 4])] 6 (D + 4) 259 _ _ (hT.1 [(92, [0, 1, 2, 4])] 6 (D + 4) 259 (64, [(0, zr 74), (1, zi (p : Int)), (2, zi (n : Int)), (3, zi v)], [zi 0, zi (p : Int), zr 74, zi 12, zr 91], (zu (zu (zu m 74 31 0) 74 32 0) 74 33 0)) _ (o1)))))))))
theorem zb259_51 (hT : zRules T) {D : Nat} {κ : Option zA → zM → Prop} {m : zM} {p : Nat} {n : Nat} {v : Int} {lo : zL} (hlo : z_keep [0, 1, 2, 3] lo = [(0, zr 74), (1, zi (p : Int)), (2, zi (n : Int)), (3, zi v)])  (hB : zB m) (h_p : p ≤ 5) (h_n : n ≤ 20) (h_v : 0 ≤ v ∧ v ≤ 9) 
    (k1 : zB (zu (zu (zu m 74 31 0) 74 32 0) 74 33 0) → T (D + 3) 216 (0, [(0, zr 74), (1, zi (p : Int)), (2, zi 0)], [], (zu (zu (zu m 74 31 0) 74 32 0) 74 33 0)) (fun r m1 => T (D + 4) 259 (67, [(0, zr 74), (1, zi (p : Int)), (2, zi (n : Int)), (3, zi v)], r.toList ++ [zi 12, zr 91], m1) κ)) :
    T (D + 4) 259 (51, lo, [], m) κ := by
  exact zb259_51r hT hlo
    (k1  (zB_u (zB_u (zB_u hB trivial) trivial) trivial))
theorem zb259_67r (hT : zRules T) {D : Nat} {κ : Option zA → zM → Prop} {m : zM} {p : Nat} {n : Nat} {v : Int} {w : Int} {lo : zL} (hlo : z_keep [0, 1, 2, 3] lo = [(0, zr 74), (1, zi (p : Int)), (2, zi (n : Int)), (3, zi v)]) 
    (o1 : T (D + 4) 259 (92, [(0, zr 74), (1, zi (p : Int)), (2, zi (n : Int)), (4, zi 1)], [], (zu (zu (zu m 91 12 w) 91 20 v) 74 31 (w + v))) κ) :
    T (D + 4) 259 (67, lo, [zi w, zi 12, zr 91], m) κ :=
  zkeep hT hlo (hT.1 [(92, [0, 1, 2, 4])] 6 (D + 4) 259 _ κ (And.intro (And.intro (z_ixL rfl) trivial) (And.intro (And.intro (z_ixL rfl) trivial) (hT.1 [(92, [0, 1, 2, 4])] 6 (D + 4) 259 (76, [(0, zr 74), (1, zi (p : Int)), (2, zi (n : Int)), (3, zi v)], [], (zu (zu m 91 12 w) 91 20 v)) _ (And.intro (z_ixL rfl) (hT.1 [(92, [0, 1, 2, 4])] 6 (D + 4) 259 (85, [(0, zr 74), (1, zi (p : Int)), (2, zi (n : Int)), (3, zi v)], [zi v, zi w, zr 74], (zu (zu m 91 12 w) 91 20 v)) _ (And.intro trivial (o1))))))))
theorem zb259_67 (hT : zRules T) {D : Nat} {κ : Option zA → zM → Prop} {m : zM} {p : Nat} {n : Nat} {v : Int} {w : Int} {lo : zL} (hlo : z_keep [0, 1, 2, 3] lo = [(0, zr 74), (1, zi (p : Int)), (2, zi (n : Int)), (3, zi v)])  (hB : zB m) (h_p : p ≤ 5) (h_n : n ≤ 20) (h_v : 0 ≤ v ∧ v ≤ 9) (h_w : 0 ≤ w ∧ w ≤ 99) 
    (k1 : zB (zu (zu (zu m 91 12 w) 91 20 v) 74 31 (w + v)) → T (D + 4) 259 (92, [(0, zr 74), (1, zi (p : Int)), (2, zi (n : Int)), (4, zi 1)], [], (zu (zu (zu m 91 12 w) 91 20 v) 74 31 (w + v))) κ) :
    T (D + 4) 259 (67, lo, [zi w, zi 12, zr 91], m) κ := by
  exact zb259_67r hT hlo
    (k1  (zB_u (zB_u (zB_u hB (show (-1) ≤ w ∧ w ≤ 99 from ⟨by omega, by omega⟩)) (show (-1) ≤ v ∧ v ≤ 9 from ⟨by omega, by omega⟩)) trivial))
theorem zb259_92r (hT : zRules T) {D : Nat} {κ : Option zA → zM → Prop} {m : zM} {p : Nat} {n : Nat} {k : Nat} {lo : zL} (hlo : z_keep [0, 1, 2, 4] lo = [(0, zr 74), (1, zi (p : Int)), (2, zi (n : Int)), (4, zi (k : Int))]) 
    (o1 : ¬ wr (k : Int) < wr (n : Int) → κ (some (zi (wr (wr (((m 79 1) * (m 74 31)) + ((m 79 2) * (m 74 32))))))) (zu (zu (zu (zu (zu m 74 11 0) 81 0 (m 74 31)) 74 11 1) 81 1 (m 74 32)) 74 11 2))
    (o2 : wr (k : Int) < wr (n : Int) → T (D + 3) 216 (0, [(0, zr 74), (1, zi (p : Int)), (2, zi (k : Int))], [], m) (fun r m1 => T (D + 4) 259 (111, [(0, zr 74), (1, zi (p : Int)), (2, zi (n : Int)), (4, zi (k : Int))], r.toList ++ [zi 0, zr 91, zr 74], m1) κ)) :
    T (D + 4) 259 (92, lo, [], m) κ :=
  zkeep hT hlo (hT.1 [(92, [0, 1, 2, 4])] 6 (D + 4) 259 _ κ (And.intro (fun a1 => (And.intro trivial (hT.1 [(92, [0, 1, 2, 4])] 6 (D + 4) 259 (125, [(0, zr 74), (1, zi (p : Int)), (2, zi (n : Int)), (4, zi (k : Int))], [], (zu m 74 11 0)) _ (hT.1 [] 6 (D + 3) 189 _ _ (And.intro (And.intro (z_ixL rfl) trivial) (hT.1 [] 6 (D + 3) 189 (10, [(0, zr 74), (1, zi (m 74 31))], [], (zu (zu m 74 11 0) 81 0 (m 74 31))) _ (And.intro trivial (hT.1 [] 6 (D + 3) 189 (20, [(0, zr 74), (1, zi (m 74 31))], [], (zu (zu (zu m 74 11 0) 81 0 (m 74 31)) 74 11 1)) _ (hT.1 [(92, [0, 1, 2, 4])] 6 (D + 4) 259 _ _ (hT.1 [] 6 (D + 3) 189 _ _ (And.intro (And.intro (z_ixL rfl) trivial) (hT.1 [] 6 (D + 3) 189 (10, [(0, zr 74), (1, zi (m 74 32))], [], (zu (zu (zu (zu m 74 11 0) 81 0 (m 74 31)) 74 11 1) 81 1 (m 74 32))) _ (And.intro trivial (hT.1 [] 6 (D + 3) 189 (20, [(0, zr 74), (1, zi (m 74 32))], [], (zu (zu (zu (zu (zu m 74 11 0) 81 0 (m 74 31)) 74 11 1) 81 1 (m 74 32)) 74 11 2)) _ (hT.1 [(92, [0, 1, 2, 4])] 6 (D + 4) 259 _ _ (hT.1 [] 6 (D + 3) 225 _ _ (And.intro (z_ixL rfl) (hT.1 [] 6 (D + 3) 225 (10, [(0, zr 74)], [zi (m 74 31), zi (m 79 1)], (zu (zu (zu (zu (zu m 74 11 0) 81 0 (m 74 31)) 74 11 1) 81 1 (m 74 32)) 74 11 2)) _ (And.intro (z_ixL rfl) (hT.1 [] 6 (D + 3) 225 (18, [(0, zr 74)], [zr 74, zi (m 79 2), zi ((m 79 1) * (m 74 31))], (zu (zu (zu (zu (zu m 74 11 0) 81 0 (m 74 31)) 74 11 1) 81 1 (m 74 32)) 74 11 2)) _ (hT.1 [(92, [0, 1, 2, 4])] 6 (D + 4) 259 _ _ (o1 a1)))))))))))))))))))))) (fun a2 => (hT.1 [(92, [0, 1, 2, 4])] 6 (D + 4) 259 (103, [(0, zr 74), (1, zi (p : Int)), (2, zi (n : Int)), (4, zi (k : Int))], [zr 91, zr 74], m) _ (o2 (Classical.byContradiction a2))))))
theorem zb259_92 (hT : zRules T) {D : Nat} {κ : Option zA → zM → Prop} {m : zM} {p : Nat} {n : Nat} {k : Nat} {lo : zL} (hlo : z_keep [0, 1, 2, 4] lo = [(0, zr 74), (1, zi (p : Int)), (2, zi (n : Int)), (4, zi (k : Int))])  (hB : zB m) (h_p : p ≤ 5) (h_n : n ≤ 20) (h_k : k ≤ 20) 
    (k1 : ¬ (k : Int) < (n : Int) → zB (zu (zu (zu (zu (zu m 74 11 0) 81 0 (m 74 31)) 74 11 1) 81 1 (m 74 32)) 74 11 2) → κ (some (zi (wr (((m 79 1) * (m 74 31)) + ((m 79 2) * (m 74 32)))))) (zu (zu (zu (zu (zu m 74 11 0) 81 0 (m 74 31)) 74 11 1) 81 1 (m 74 32)) 74 11 2))
    (k2 : (k : Int) < (n : Int) → T (D + 3) 216 (0, [(0, zr 74), (1, zi (p : Int)), (2, zi (k : Int))], [], m) (fun r m1 => T (D + 4) 259 (111, [(0, zr 74), (1, zi (p : Int)), (2, zi (n : Int)), (4, zi (k : Int))], r.toList ++ [zi 0, zr 91, zr 74], m1) κ)) :
    T (D + 4) 259 (92, lo, [], m) κ := by
  have hb3 : 0 ≤ (m 79 1) ∧ (m 79 1) ≤ 9 := hB 79 1
  have hb4 : 0 ≤ (m 79 2) ∧ (m 79 2) ≤ 9 := hB 79 2
  have hb5 : (-2147483648) ≤ wr (((m 79 1) * (m 74 31)) + ((m 79 2) * (m 74 32))) ∧ wr (((m 79 1) * (m 74 31)) + ((m 79 2) * (m 74 32))) ≤ 2147483647 := wrB (((m 79 1) * (m 74 31)) + ((m 79 2) * (m 74 32)))
  have he0 : wr (k : Int) = (k : Int) := wr_id (by omega) (by omega)
  have he1 : wr (n : Int) = (n : Int) := wr_id (by omega) (by omega)
  have he2 : wr (wr (((m 79 1) * (m 74 31)) + ((m 79 2) * (m 74 32)))) = wr (((m 79 1) * (m 74 31)) + ((m 79 2) * (m 74 32))) := wr_id (by omega) (by omega)
  have key := @zb259_92r T hT D κ m p n k lo hlo
  simp only [he0, he1, he2, Int.toNat_natCast] at key
  exact key
    (fun x0 => k1 x0 (zB_u (zB_u (zB_u (zB_u (zB_u hB (show 0 ≤ 0 ∧ 0 ≤ 32 from ⟨by omega, by omega⟩)) trivial) (show 0 ≤ 1 ∧ 1 ≤ 32 from ⟨by omega, by omega⟩)) trivial) (show 0 ≤ 2 ∧ 2 ≤ 32 from ⟨by omega, by omega⟩)))
    k2
theorem zb259_111r (hT : zRules T) {D : Nat} {κ : Option zA → zM → Prop} {m : zM} {p : Nat} {n : Nat} {k : Nat} {w : Int} {lo : zL} (hlo : z_keep [0, 1, 2, 4] lo = [(0, zr 74), (1, zi (p : Int)), (2, zi (n : Int)), (4, zi (k : Int))]) 
    (o1 : T (D + 3) 226 (0, [(0, zr 74), (1, zr 91), (2, zi 0), (3, zi w)], [], m) (fun r m1 => T (D + 4) 259 (114, [(0, zr 74), (1, zi (p : Int)), (2, zi (n : Int)), (4, zi (k : Int))], r.toList ++ [], m1) κ)) :
    T (D + 4) 259 (111, lo, [zi w, zi 0, zr 91, zr 74], m) κ :=
  zkeep hT hlo (hT.1 [(92, [0, 1, 2, 4])] 6 (D + 4) 259 _ κ (o1))
theorem zb259_111 (hT : zRules T) {D : Nat} {κ : Option zA → zM → Prop} {m : zM} {p : Nat} {n : Nat} {k : Nat} {w : Int} {lo : zL} (hlo : z_keep [0, 1, 2, 4] lo = [(0, zr 74), (1, zi (p : Int)), (2, zi (n : Int)), (4, zi (k : Int))])  (hB : zB m) (h_p : p ≤ 5) (h_n : n ≤ 20) (h_k : k ≤ 20) (h_w : 0 ≤ w ∧ w ≤ 99) 
    (k1 : T (D + 3) 226 (0, [(0, zr 74), (1, zr 91), (2, zi 0), (3, zi w)], [], m) (fun r m1 => T (D + 4) 259 (114, [(0, zr 74), (1, zi (p : Int)), (2, zi (n : Int)), (4, zi (k : Int))], r.toList ++ [], m1) κ)) :
    T (D + 4) 259 (111, lo, [zi w, zi 0, zr 91, zr 74], m) κ := by
  exact zb259_111r hT hlo
    k1
theorem zb259_114r (hT : zRules T) {D : Nat} {κ : Option zA → zM → Prop} {m : zM} {p : Nat} {n : Nat} {k : Nat} {lo : zL} (hlo : z_keep [0, 1, 2, 4] lo = [(0, zr 74), (1, zi (p : Int)), (2, zi (n : Int)), (4, zi (k : Int))]) 
    (o1 : T (D + 4) 259 (92, [(0, zr 74), (1, zi (p : Int)), (2, zi (n : Int)), (4, zi ((k : Int) + 1))], [], m) κ) :
    T (D + 4) 259 (114, lo, [], m) κ :=
  zkeep hT hlo (hT.1 [(92, [0, 1, 2, 4])] 6 (D + 4) 259 _ κ (o1))
theorem zb259_114 (hT : zRules T) {D : Nat} {κ : Option zA → zM → Prop} {m : zM} {p : Nat} {n : Nat} {k : Nat} {lo : zL} (hlo : z_keep [0, 1, 2, 4] lo = [(0, zr 74), (1, zi (p : Int)), (2, zi (n : Int)), (4, zi (k : Int))])  (hB : zB m) (h_p : p ≤ 5) (h_n : n ≤ 20) (h_k : k ≤ 20) 
    (k1 : T (D + 4) 259 (92, [(0, zr 74), (1, zi (p : Int)), (2, zi (n : Int)), (4, zi ((k : Int) + 1))], [], m) κ) :
    T (D + 4) 259 (114, lo, [], m) κ := by
  exact zb259_114r hT hlo
    k1
end ZBlocks
