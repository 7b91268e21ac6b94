/-! lay, of other rows. -/
/-- X12_lay708b -/
def k_900 : sK := (s_num (vP 0),
  [vr 88, vr 87, .inl (([(0, vP 59)], vP 0))],
  (false, [(vP 0, vP 11), (vP 0, vP 210000), (vP 0, vP 20), (vP 0, vP 210000)], [([(1, vP 1), (3, vM 0)], vP 0)], []),
  [(87, vR .int 708 (List.replicate 6 (wb (vP 0) (vP 3)) ++ List.replicate 6 (wb (vM 0) (vP 7)) ++ List.replicate 8 (wb (vM 0) (vP 99)) ++ List.replicate 8 (wb (vP 0) (vP 9)) ++ List.replicate 8 (wb (vM 2147483647) (vP 2147483647)) ++ List.replicate 20 (wb (vP 0) (vP 109)) ++ [wb (vP 0) (vP 20), wu (vP 0) (vP 400000) (s_nm 1), wb (vM 2147483647) (vP 2147483647)]) []), (88, vR .int 59 (List.replicate 6 (wb (vP 0) (vP 3)) ++ List.replicate 6 (wb (vM 0) (vP 7)) ++ List.replicate 8 (wb (vM 0) (vP 99)) ++ List.replicate 8 (wb (vP 0) (vP 9)) ++ List.replicate 8 (wb (vM 2147483647) (vP 2147483647)) ++ List.replicate 20 (wb (vP 0) (vP 109)) ++ [.inl (s_nm 2), .inl (s_nm 3), wb (vM 2147483647) (vP 2147483647)]) [])],
  [(none, (false, [(vP 0, vP 11), (vP 0, vP 210000), (vP 0, vP 20), (vP 0, vP 210000)], [([(1, vP 1), (3, vM 0)], vP 0)], []), [(87, vR .int 708 (List.replicate 6 (wb (vP 0) (vP 3)) ++ List.replicate 6 (wb (vM 0) (vP 7)) ++ List.replicate 8 (wb (vM 0) (vP 99)) ++ List.replicate 8 (wb (vP 0) (vP 9)) ++ List.replicate 8 (wb (vM 2147483647) (vP 2147483647)) ++ List.replicate 20 (wb (vP 0) (vP 109)) ++ [wb (vP 0) (vP 20), wu (vP 0) (vP 400000) (s_nm 1), wb (vM 2147483647) (vP 2147483647)]) []), (88, vR .int 59 (List.replicate 6 (wb (vP 0) (vP 3)) ++ List.replicate 6 (wb (vM 0) (vP 7)) ++ List.replicate 8 (wb (vM 0) (vP 99)) ++ List.replicate 8 (wb (vP 0) (vP 9)) ++ List.replicate 8 (wb (vM 2147483647) (vP 2147483647)) ++ List.replicate 20 (wb (vP 0) (vP 109)) ++ [.inl (s_nm 2), .inl (s_nm 3), wb (vM 2147483647) (vP 2147483647)]) [])])])
def u_900 : List sCut := []
/-- X12_lay88 -/
def k_901 : sK := (s_num (vP 0),
  [vr 75, vr 88, .inl (s_num (vP 0))],
  (false, [(vP 0, vP 20), (vP 0, vP 400000)], [], []),
  [(75, vR .int 59 (List.replicate 6 (wb (vP 0) (vP 3)) ++ List.replicate 6 (wb (vM 0) (vP 7)) ++ List.replicate 8 (wb (vM 0) (vP 99)) ++ List.replicate 8 (wb (vP 0) (vP 9)) ++ List.replicate 8 (wb (vM 2147483647) (vP 2147483647)) ++ List.replicate 20 (wb (vP 0) (vP 109)) ++ [.inl (s_nm 0), .inl (s_nm 1), wb (vM 2147483647) (vP 2147483647)]) []), (88, vR .int 59 (List.replicate 6 (wb (vP 0) (vP 3)) ++ List.replicate 6 (wb (vM 0) (vP 7)) ++ List.replicate 8 (wb (vM 0) (vP 99)) ++ List.replicate 8 (wb (vP 0) (vP 9)) ++ List.replicate 8 (wb (vM 2147483647) (vP 2147483647)) ++ List.replicate 20 (wb (vP 0) (vP 109)) ++ [wb (vP 0) (vP 20), wb (vP 0) (vP 400000), wb (vM 2147483647) (vP 2147483647)]) [])],
  [(none, (false, [(vP 0, vP 20), (vP 0, vP 400000)], [], []), [(75, vR .int 59 (List.replicate 6 (wb (vP 0) (vP 3)) ++ List.replicate 6 (wb (vM 0) (vP 7)) ++ List.replicate 8 (wb (vM 0) (vP 99)) ++ List.replicate 8 (wb (vP 0) (vP 9)) ++ List.replicate 8 (wb (vM 2147483647) (vP 2147483647)) ++ List.replicate 20 (wb (vP 0) (vP 109)) ++ [.inl (s_nm 0), .inl (s_nm 1), wb (vM 2147483647) (vP 2147483647)]) []), (88, vR .int 59 (List.replicate 6 (wb (vP 0) (vP 3)) ++ List.replicate 6 (wb (vM 0) (vP 7)) ++ List.replicate 8 (wb (vM 0) (vP 99)) ++ List.replicate 8 (wb (vP 0) (vP 9)) ++ List.replicate 8 (wb (vM 2147483647) (vP 2147483647)) ++ List.replicate 20 (wb (vP 0) (vP 109)) ++ [.inl (s_nm 0), .inl (s_nm 1), wb (vM 2147483647) (vP 2147483647)]) [])])])
def u_901 : List sCut := []
def tabY (k : Nat) : List sK := bif Nat.beq k 228 then k_900 :: k_901 :: tab k else tab k
theorem o_900 : s_chk0 tab 228 k_900 u_900 4000 = true := by decide +kernel
theorem o_901 : s_chk0 tab 228 k_901 u_901 4000 = true := by decide +kernel
theorem oy_243 : s_chk0 tabY 238 k_243 u_243 4000 = true := by decide +kernel
theorem oy_243_0 : s_chk1 tabY 238 k_243 u_243 4000 2 u_243_0 = true := by decide +kernel
theorem oy_243_1 : s_chk1 tabY 238 k_243 u_243 4000 2 u_243_1 = true := by decide +kernel
theorem oy_243_2 : s_chk1 tabY 238 k_243 u_243 4000 2 u_243_2 = true := by decide +kernel
theorem oy_243_3 : s_chk1 tabY 238 k_243 u_243 4000 2 u_243_3 = true := by decide +kernel
section Year
variable {l : Launch} {dC : Nat → ClassId} {dI : Nat → Nat → Nat} {dA : FieldType → ClassId} {Hb : Heap} {ad : Nat → Nat}
theorem ko_900 {K : Nat} (ih : ∀ D, D < K → ∀ c, ∀ C ∈ tab c, q_KOK l dC dI dA Hb ad c C D) : q_KOK l dC dI dA Hb ad 228 k_900 K := q_body (cuts := u_900) o_900 (L := 0) (fun q hq => nomatch hq) ih
theorem ko_901 {K : Nat} (ih : ∀ D, D < K → ∀ c, ∀ C ∈ tab c, q_KOK l dC dI dA Hb ad c C D) : q_KOK l dC dI dA Hb ad 228 k_901 K := q_body (cuts := u_901) o_901 (L := 0) (fun q hq => nomatch hq) ih
theorem q_ihY {K : Nat} (ih : ∀ D, D < K → ∀ c, ∀ C ∈ tab c, q_KOK l dC dI dA Hb ad c C D) : ∀ D, D < K → ∀ c, ∀ C ∈ tabY c, q_KOK l dC dI dA Hb ad c C D := by
  intro D hD c C hC
  unfold tabY at hC
  cases hb : Nat.beq c 228 with
  | false =>
    rw [hb] at hC
    exact ih D hD c C hC
  | true =>
    rw [hb] at hC
    have e := Nat.eq_of_beq_eq_true hb
    subst e
    simp only [cond_true] at hC
    rcases List.mem_cons.mp hC with rfl | hC
    · exact ko_900 (fun D' hD' => ih D' (by omega))
    · rcases List.mem_cons.mp hC with rfl | hC
      · exact ko_901 (fun D' hD' => ih D' (by omega))
      · exact ih D hD 228 C hC
theorem ko_243 {K : Nat} (ih : ∀ D, D < K → ∀ c, ∀ C ∈ tab c, q_KOK l dC dI dA Hb ad c C D) : q_KOK l dC dI dA Hb ad 238 k_243 K := q_body (cuts := u_243) oy_243 (L := 2) (fun q hq => by
    unfold u_243 at hq
    simp only [List.mem_cons, List.not_mem_nil, or_false] at hq
    rcases hq with rfl | rfl | rfl | rfl
    · exact oy_243_0
    · exact oy_243_1
    · exact oy_243_2
    · exact oy_243_3) (q_ihY ih)
end Year
