/-! Every contract, by its checks. -/
section Koks
variable {l : Launch} {dC : Nat → ClassId} {dI : Nat → Nat → Nat} {dA : FieldType → ClassId} {Hb : Heap} {ad : Nat → Nat}
theorem ko_0 {K : Nat} (ih : ∀ D, D < K → ∀ c, ∀ C ∈ tab c, q_KOK l dC dI dA Hb ad c C D) : q_KOK l dC dI dA Hb ad 292 k_0 K := by
  refine q_split (j := 0) (lo := vP 1) (hi := vP 63) rfl fun z h1 h2 => ?_
  have hz : z = 1 ∨ z = 2 ∨ z = 3 ∨ z = 4 ∨ z = 5 ∨ z = 6 ∨ z = 7 ∨ z = 8 ∨ z = 9 ∨ z = 10 ∨ z = 11 ∨ z = 12 ∨ z = 13 ∨ z = 14 ∨ z = 15 ∨ z = 16 ∨ z = 17 ∨ z = 18 ∨ z = 19 ∨ z = 20 ∨ z = 21 ∨ z = 22 ∨ z = 23 ∨ z = 24 ∨ z = 25 ∨ z = 26 ∨ z = 27 ∨ z = 28 ∨ z = 29 ∨ z = 30 ∨ z = 31 ∨ z = 32 ∨ z = 33 ∨ z = 34 ∨ z = 35 ∨ z = 36 ∨ z = 37 ∨ z = 38 ∨ z = 39 ∨ z = 40 ∨ z = 41 ∨ z = 42 ∨ z = 43 ∨ z = 44 ∨ z = 45 ∨ z = 46 ∨ z = 47 ∨ z = 48 ∨ z = 49 ∨ z = 50 ∨ z = 51 ∨ z = 52 ∨ z = 53 ∨ z = 54 ∨ z = 55 ∨ z = 56 ∨ z = 57 ∨ z = 58 ∨ z = 59 ∨ z = 60 ∨ z = 61 ∨ z = 62 ∨ z = 63 := by
    have h1 : (1 : Int) ≤ z := h1
    have h2 : z ≤ (63 : Int) := h2
    omega
  rcases hz with rfl | rfl | rfl | rfl | rfl | rfl | rfl | rfl | rfl | rfl | rfl | rfl | rfl | rfl | rfl | rfl | rfl | rfl | rfl | rfl | rfl | rfl | rfl | rfl | rfl | rfl | rfl | rfl | rfl | rfl | rfl | rfl | rfl | rfl | rfl | rfl | rfl | rfl | rfl | rfl | rfl | rfl | rfl | rfl | rfl | rfl | rfl | rfl | rfl | rfl | rfl | rfl | rfl | rfl | rfl | rfl | rfl | rfl | rfl | rfl | rfl | rfl | rfl
  · exact q_body (cuts := w_0_1) o_0_1 (L := 0) (fun q hq => nomatch hq) ih
  · exact q_body (cuts := w_0_2) o_0_2 (L := 0) (fun q hq => nomatch hq) ih
  · exact q_body (cuts := w_0_3) o_0_3 (L := 0) (fun q hq => nomatch hq) ih
  · exact q_body (cuts := w_0_4) o_0_4 (L := 0) (fun q hq => nomatch hq) ih
  · exact q_body (cuts := w_0_5) o_0_5 (L := 0) (fun q hq => nomatch hq) ih
  · exact q_body (cuts := w_0_6) o_0_6 (L := 0) (fun q hq => nomatch hq) ih
  · exact q_body (cuts := w_0_7) o_0_7 (L := 0) (fun q hq => nomatch hq) ih
  · exact q_body (cuts := w_0_8) o_0_8 (L := 0) (fun q hq => nomatch hq) ih
  · exact q_body (cuts := w_0_9) o_0_9 (L := 0) (fun q hq => nomatch hq) ih
  · exact q_body (cuts := w_0_10) o_0_10 (L := 0) (fun q hq => nomatch hq) ih
  · exact q_body (cuts := w_0_11) o_0_11 (L := 0) (fun q hq => nomatch hq) ih
  · exact q_body (cuts := w_0_12) o_0_12 (L := 0) (fun q hq => nomatch hq) ih
  · exact q_body (cuts := w_0_13) o_0_13 (L := 0) (fun q hq => nomatch hq) ih
  · exact q_body (cuts := w_0_14) o_0_14 (L := 0) (fun q hq => nomatch hq) ih
  · exact q_body (cuts := w_0_15) o_0_15 (L := 0) (fun q hq => nomatch hq) ih
  · exact q_body (cuts := w_0_16) o_0_16 (L := 0) (fun q hq => nomatch hq) ih
  · exact q_body (cuts := w_0_17) o_0_17 (L := 0) (fun q hq => nomatch hq) ih
  · exact q_body (cuts := w_0_18) o_0_18 (L := 0) (fun q hq => nomatch hq) ih
  · exact q_body (cuts := w_0_19) o_0_19 (L := 0) (fun q hq => nomatch hq) ih
  · exact q_body (cuts := w_0_20) o_0_20 (L := 0) (fun q hq => nomatch hq) ih
  · exact q_body (cuts := w_0_21) o_0_21 (L := 0) (fun q hq => nomatch hq) ih
  · exact q_body (cuts := w_0_22) o_0_22 (L := 0) (fun q hq => nomatch hq) ih
  · exact q_body (cuts := w_0_23) o_0_23 (L := 0) (fun q hq => nomatch hq) ih
  · exact q_body (cuts := w_0_24) o_0_24 (L := 0) (fun q hq => nomatch hq) ih
  · exact q_body (cuts := w_0_25) o_0_25 (L := 0) (fun q hq => nomatch hq) ih
  · exact q_body (cuts := w_0_26) o_0_26 (L := 0) (fun q hq => nomatch hq) ih
  · exact q_body (cuts := w_0_27) o_0_27 (L := 0) (fun q hq => nomatch hq) ih
  · exact q_body (cuts := w_0_28) o_0_28 (L := 0) (fun q hq => nomatch hq) ih
  · exact q_body (cuts := w_0_29) o_0_29 (L := 0) (fun q hq => nomatch hq) ih
  · exact q_body (cuts := w_0_30) o_0_30 (L := 0) (fun q hq => nomatch hq) ih
  · exact q_body (cuts := w_0_31) o_0_31 (L := 0) (fun q hq => nomatch hq) ih
  · exact q_body (cuts := w_0_32) o_0_32 (L := 0) (fun q hq => nomatch hq) ih
  · exact q_body (cuts := w_0_33) o_0_33 (L := 0) (fun q hq => nomatch hq) ih
  · exact q_body (cuts := w_0_34) o_0_34 (L := 0) (fun q hq => nomatch hq) ih
  · exact q_body (cuts := w_0_35) o_0_35 (L := 0) (fun q hq => nomatch hq) ih
  · exact q_body (cuts := w_0_36) o_0_36 (L := 0) (fun q hq => nomatch hq) ih
  · exact q_body (cuts := w_0_37) o_0_37 (L := 0) (fun q hq => nomatch hq) ih
  · exact q_body (cuts := w_0_38) o_0_38 (L := 0) (fun q hq => nomatch hq) ih
  · exact q_body (cuts := w_0_39) o_0_39 (L := 0) (fun q hq => nomatch hq) ih
  · exact q_body (cuts := w_0_40) o_0_40 (L := 0) (fun q hq => nomatch hq) ih
  · exact q_body (cuts := w_0_41) o_0_41 (L := 0) (fun q hq => nomatch hq) ih
  · exact q_body (cuts := w_0_42) o_0_42 (L := 0) (fun q hq => nomatch hq) ih
  · exact q_body (cuts := w_0_43) o_0_43 (L := 0) (fun q hq => nomatch hq) ih
  · exact q_body (cuts := w_0_44) o_0_44 (L := 0) (fun q hq => nomatch hq) ih
  · exact q_body (cuts := w_0_45) o_0_45 (L := 0) (fun q hq => nomatch hq) ih
  · exact q_body (cuts := w_0_46) o_0_46 (L := 0) (fun q hq => nomatch hq) ih
  · exact q_body (cuts := w_0_47) o_0_47 (L := 0) (fun q hq => nomatch hq) ih
  · exact q_body (cuts := w_0_48) o_0_48 (L := 0) (fun q hq => nomatch hq) ih
  · exact q_body (cuts := w_0_49) o_0_49 (L := 0) (fun q hq => nomatch hq) ih
  · exact q_body (cuts := w_0_50) o_0_50 (L := 0) (fun q hq => nomatch hq) ih
  · exact q_body (cuts := w_0_51) o_0_51 (L := 0) (fun q hq => nomatch hq) ih
  · exact q_body (cuts := w_0_52) o_0_52 (L := 0) (fun q hq => nomatch hq) ih
  · exact q_body (cuts := w_0_53) o_0_53 (L := 0) (fun q hq => nomatch hq) ih
  · exact q_body (cuts := w_0_54) o_0_54 (L := 0) (fun q hq => nomatch hq) ih
  · exact q_body (cuts := w_0_55) o_0_55 (L := 0) (fun q hq => nomatch hq) ih
  · exact q_body (cuts := w_0_56) o_0_56 (L := 0) (fun q hq => nomatch hq) ih
  · exact q_body (cuts := w_0_57) o_0_57 (L := 0) (fun q hq => nomatch hq) ih
  · exact q_body (cuts := w_0_58) o_0_58 (L := 0) (fun q hq => nomatch hq) ih
  · exact q_body (cuts := w_0_59) o_0_59 (L := 0) (fun q hq => nomatch hq) ih
  · exact q_body (cuts := w_0_60) o_0_60 (L := 0) (fun q hq => nomatch hq) ih
  · exact q_body (cuts := w_0_61) o_0_61 (L := 0) (fun q hq => nomatch hq) ih
  · exact q_body (cuts := w_0_62) o_0_62 (L := 0) (fun q hq => nomatch hq) ih
  · exact q_body (cuts := w_0_63) o_0_63 (L := 0) (fun q hq => nomatch hq) ih
theorem ko_1 {K : Nat} (ih : ∀ D, D < K → ∀ c, ∀ C ∈ tab c, q_KOK l dC dI dA Hb ad c C D) : q_KOK l dC dI dA Hb ad 292 k_1 K := q_body (cuts := u_1) o_1 (L := 0) (fun q hq => nomatch hq) ih
theorem ko_2 {K : Nat} (ih : ∀ D, D < K → ∀ c, ∀ C ∈ tab c, q_KOK l dC dI dA Hb ad c C D) : q_KOK l dC dI dA Hb ad 293 k_2 K := q_body (cuts := u_2) o_2 (L := 0) (fun q hq => nomatch hq) ih
theorem ko_3 {K : Nat} (ih : ∀ D, D < K → ∀ c, ∀ C ∈ tab c, q_KOK l dC dI dA Hb ad c C D) : q_KOK l dC dI dA Hb ad 3 k_3 K := q_body (cuts := u_3) o_3 (L := 1) (fun q hq => by
    unfold u_3 at hq
    simp only [List.mem_cons, List.not_mem_nil, or_false] at hq
    rcases hq with rfl
    · exact o_3_0) ih
theorem ko_4 {K : Nat} (ih : ∀ D, D < K → ∀ c, ∀ C ∈ tab c, q_KOK l dC dI dA Hb ad c C D) : q_KOK l dC dI dA Hb ad 2 k_4 K := q_body (cuts := u_4) o_4 (L := 1) (fun q hq => by
    unfold u_4 at hq
    simp only [List.mem_cons, List.not_mem_nil, or_false] at hq
    rcases hq with rfl
    · exact o_4_0) ih
theorem ko_5 {K : Nat} (ih : ∀ D, D < K → ∀ c, ∀ C ∈ tab c, q_KOK l dC dI dA Hb ad c C D) : q_KOK l dC dI dA Hb ad 5 k_5 K := q_body (cuts := u_5) o_5 (L := 1) (fun q hq => by
    unfold u_5 at hq
    simp only [List.mem_cons, List.not_mem_nil, or_false] at hq
    rcases hq with rfl
    · exact o_5_0) ih
theorem ko_6 {K : Nat} (ih : ∀ D, D < K → ∀ c, ∀ C ∈ tab c, q_KOK l dC dI dA Hb ad c C D) : q_KOK l dC dI dA Hb ad 8 k_6 K := q_body (cuts := u_6) o_6 (L := 1) (fun q hq => by
    unfold u_6 at hq
    simp only [List.mem_cons, List.not_mem_nil, or_false] at hq
    rcases hq with rfl
    · exact o_6_0) ih
theorem ko_7 {K : Nat} (ih : ∀ D, D < K → ∀ c, ∀ C ∈ tab c, q_KOK l dC dI dA Hb ad c C D) : q_KOK l dC dI dA Hb ad 10 k_7 K := q_body (cuts := u_7) o_7 (L := 1) (fun q hq => by
    unfold u_7 at hq
    simp only [List.mem_cons, List.not_mem_nil, or_false] at hq
    rcases hq with rfl
    · exact o_7_0) ih
theorem ko_8 {K : Nat} (ih : ∀ D, D < K → ∀ c, ∀ C ∈ tab c, q_KOK l dC dI dA Hb ad c C D) : q_KOK l dC dI dA Hb ad 12 k_8 K := q_body (cuts := u_8) o_8 (L := 4) (fun q hq => by
    unfold u_8 at hq
    simp only [List.mem_cons, List.not_mem_nil, or_false] at hq
    rcases hq with rfl | rfl | rfl
    · exact o_8_0
    · exact o_8_1
    · exact o_8_2) ih
theorem ko_9 {K : Nat} (ih : ∀ D, D < K → ∀ c, ∀ C ∈ tab c, q_KOK l dC dI dA Hb ad c C D) : q_KOK l dC dI dA Hb ad 13 k_9 K := q_body (cuts := u_9) o_9 (L := 1) (fun q hq => by
    unfold u_9 at hq
    simp only [List.mem_cons, List.not_mem_nil, or_false] at hq
    rcases hq with rfl
    · exact o_9_0) ih
theorem ko_10 {K : Nat} (ih : ∀ D, D < K → ∀ c, ∀ C ∈ tab c, q_KOK l dC dI dA Hb ad c C D) : q_KOK l dC dI dA Hb ad 11 k_10 K := q_body (cuts := u_10) o_10 (L := 1) (fun q hq => by
    unfold u_10 at hq
    simp only [List.mem_cons, List.not_mem_nil, or_false] at hq
    rcases hq with rfl
    · exact o_10_0) ih
theorem ko_11 {K : Nat} (ih : ∀ D, D < K → ∀ c, ∀ C ∈ tab c, q_KOK l dC dI dA Hb ad c C D) : q_KOK l dC dI dA Hb ad 29 k_11 K := q_body (cuts := u_11) o_11 (L := 1) (fun q hq => by
    unfold u_11 at hq
    simp only [List.mem_cons, List.not_mem_nil, or_false] at hq
    rcases hq with rfl
    · exact o_11_0) ih
theorem ko_12 {K : Nat} (ih : ∀ D, D < K → ∀ c, ∀ C ∈ tab c, q_KOK l dC dI dA Hb ad c C D) : q_KOK l dC dI dA Hb ad 31 k_12 K := q_body (cuts := u_12) o_12 (L := 1) (fun q hq => by
    unfold u_12 at hq
    simp only [List.mem_cons, List.not_mem_nil, or_false] at hq
    rcases hq with rfl
    · exact o_12_0) ih
theorem ko_13 {K : Nat} (ih : ∀ D, D < K → ∀ c, ∀ C ∈ tab c, q_KOK l dC dI dA Hb ad c C D) : q_KOK l dC dI dA Hb ad 39 k_13 K := q_body (cuts := u_13) o_13 (L := 1) (fun q hq => by
    unfold u_13 at hq
    simp only [List.mem_cons, List.not_mem_nil, or_false] at hq
    rcases hq with rfl
    · exact o_13_0) ih
theorem ko_14 {K : Nat} (ih : ∀ D, D < K → ∀ c, ∀ C ∈ tab c, q_KOK l dC dI dA Hb ad c C D) : q_KOK l dC dI dA Hb ad 38 k_14 K := q_body (cuts := u_14) o_14 (L := 0) (fun q hq => nomatch hq) ih
theorem ko_17 {K : Nat} (ih : ∀ D, D < K → ∀ c, ∀ C ∈ tab c, q_KOK l dC dI dA Hb ad c C D) : q_KOK l dC dI dA Hb ad 56 k_17 K := q_body (cuts := u_17) o_17 (L := 0) (fun q hq => nomatch hq) ih
theorem ko_18 {K : Nat} (ih : ∀ D, D < K → ∀ c, ∀ C ∈ tab c, q_KOK l dC dI dA Hb ad c C D) : q_KOK l dC dI dA Hb ad 56 k_18 K := q_body (cuts := u_18) o_18 (L := 0) (fun q hq => nomatch hq) ih
theorem ko_19 {K : Nat} (ih : ∀ D, D < K → ∀ c, ∀ C ∈ tab c, q_KOK l dC dI dA Hb ad c C D) : q_KOK l dC dI dA Hb ad 56 k_19 K := q_body (cuts := u_19) o_19 (L := 0) (fun q hq => nomatch hq) ih
theorem ko_20 {K : Nat} (ih : ∀ D, D < K → ∀ c, ∀ C ∈ tab c, q_KOK l dC dI dA Hb ad c C D) : q_KOK l dC dI dA Hb ad 56 k_20 K := q_body (cuts := u_20) o_20 (L := 0) (fun q hq => nomatch hq) ih
theorem ko_21 {K : Nat} (ih : ∀ D, D < K → ∀ c, ∀ C ∈ tab c, q_KOK l dC dI dA Hb ad c C D) : q_KOK l dC dI dA Hb ad 56 k_21 K := q_body (cuts := u_21) o_21 (L := 0) (fun q hq => nomatch hq) ih
theorem ko_22 {K : Nat} (ih : ∀ D, D < K → ∀ c, ∀ C ∈ tab c, q_KOK l dC dI dA Hb ad c C D) : q_KOK l dC dI dA Hb ad 55 k_22 K := q_body (cuts := u_22) o_22 (L := 1) (fun q hq => by
    unfold u_22 at hq
    simp only [List.mem_cons, List.not_mem_nil, or_false] at hq
    rcases hq with rfl
    · exact o_22_0) ih
theorem ko_23 {K : Nat} (ih : ∀ D, D < K → ∀ c, ∀ C ∈ tab c, q_KOK l dC dI dA Hb ad c C D) : q_KOK l dC dI dA Hb ad 55 k_23 K := q_body (cuts := u_23) o_23 (L := 1) (fun q hq => by
    unfold u_23 at hq
    simp only [List.mem_cons, List.not_mem_nil, or_false] at hq
    rcases hq with rfl
    · exact o_23_0) ih
theorem ko_24 {K : Nat} (ih : ∀ D, D < K → ∀ c, ∀ C ∈ tab c, q_KOK l dC dI dA Hb ad c C D) : q_KOK l dC dI dA Hb ad 55 k_24 K := q_body (cuts := u_24) o_24 (L := 1) (fun q hq => by
    unfold u_24 at hq
    simp only [List.mem_cons, List.not_mem_nil, or_false] at hq
    rcases hq with rfl
    · exact o_24_0) ih
theorem ko_25 {K : Nat} (ih : ∀ D, D < K → ∀ c, ∀ C ∈ tab c, q_KOK l dC dI dA Hb ad c C D) : q_KOK l dC dI dA Hb ad 55 k_25 K := q_body (cuts := u_25) o_25 (L := 1) (fun q hq => by
    unfold u_25 at hq
    simp only [List.mem_cons, List.not_mem_nil, or_false] at hq
    rcases hq with rfl
    · exact o_25_0) ih
theorem ko_26 {K : Nat} (ih : ∀ D, D < K → ∀ c, ∀ C ∈ tab c, q_KOK l dC dI dA Hb ad c C D) : q_KOK l dC dI dA Hb ad 55 k_26 K := q_body (cuts := u_26) o_26 (L := 1) (fun q hq => by
    unfold u_26 at hq
    simp only [List.mem_cons, List.not_mem_nil, or_false] at hq
    rcases hq with rfl
    · exact o_26_0) ih
theorem ko_27 {K : Nat} (ih : ∀ D, D < K → ∀ c, ∀ C ∈ tab c, q_KOK l dC dI dA Hb ad c C D) : q_KOK l dC dI dA Hb ad 54 k_27 K := q_body (cuts := u_27) o_27 (L := 1) (fun q hq => by
    unfold u_27 at hq
    simp only [List.mem_cons, List.not_mem_nil, or_false] at hq
    rcases hq with rfl
    · exact o_27_0) ih
theorem ko_28 {K : Nat} (ih : ∀ D, D < K → ∀ c, ∀ C ∈ tab c, q_KOK l dC dI dA Hb ad c C D) : q_KOK l dC dI dA Hb ad 54 k_28 K := q_body (cuts := u_28) o_28 (L := 1) (fun q hq => by
    unfold u_28 at hq
    simp only [List.mem_cons, List.not_mem_nil, or_false] at hq
    rcases hq with rfl
    · exact o_28_0) ih
theorem ko_29 {K : Nat} (ih : ∀ D, D < K → ∀ c, ∀ C ∈ tab c, q_KOK l dC dI dA Hb ad c C D) : q_KOK l dC dI dA Hb ad 54 k_29 K := q_body (cuts := u_29) o_29 (L := 1) (fun q hq => by
    unfold u_29 at hq
    simp only [List.mem_cons, List.not_mem_nil, or_false] at hq
    rcases hq with rfl
    · exact o_29_0) ih
theorem ko_30 {K : Nat} (ih : ∀ D, D < K → ∀ c, ∀ C ∈ tab c, q_KOK l dC dI dA Hb ad c C D) : q_KOK l dC dI dA Hb ad 54 k_30 K := q_body (cuts := u_30) o_30 (L := 1) (fun q hq => by
    unfold u_30 at hq
    simp only [List.mem_cons, List.not_mem_nil, or_false] at hq
    rcases hq with rfl
    · exact o_30_0) ih
theorem ko_31 {K : Nat} (ih : ∀ D, D < K → ∀ c, ∀ C ∈ tab c, q_KOK l dC dI dA Hb ad c C D) : q_KOK l dC dI dA Hb ad 54 k_31 K := q_body (cuts := u_31) o_31 (L := 1) (fun q hq => by
    unfold u_31 at hq
    simp only [List.mem_cons, List.not_mem_nil, or_false] at hq
    rcases hq with rfl
    · exact o_31_0) ih
theorem ko_32 {K : Nat} (ih : ∀ D, D < K → ∀ c, ∀ C ∈ tab c, q_KOK l dC dI dA Hb ad c C D) : q_KOK l dC dI dA Hb ad 53 k_32 K := q_body (cuts := u_32) o_32 (L := 1) (fun q hq => by
    unfold u_32 at hq
    simp only [List.mem_cons, List.not_mem_nil, or_false] at hq
    rcases hq with rfl
    · exact o_32_0) ih
theorem ko_33 {K : Nat} (ih : ∀ D, D < K → ∀ c, ∀ C ∈ tab c, q_KOK l dC dI dA Hb ad c C D) : q_KOK l dC dI dA Hb ad 53 k_33 K := q_body (cuts := u_33) o_33 (L := 1) (fun q hq => by
    unfold u_33 at hq
    simp only [List.mem_cons, List.not_mem_nil, or_false] at hq
    rcases hq with rfl
    · exact o_33_0) ih
theorem ko_34 {K : Nat} (ih : ∀ D, D < K → ∀ c, ∀ C ∈ tab c, q_KOK l dC dI dA Hb ad c C D) : q_KOK l dC dI dA Hb ad 53 k_34 K := q_body (cuts := u_34) o_34 (L := 1) (fun q hq => by
    unfold u_34 at hq
    simp only [List.mem_cons, List.not_mem_nil, or_false] at hq
    rcases hq with rfl
    · exact o_34_0) ih
theorem ko_35 {K : Nat} (ih : ∀ D, D < K → ∀ c, ∀ C ∈ tab c, q_KOK l dC dI dA Hb ad c C D) : q_KOK l dC dI dA Hb ad 53 k_35 K := q_body (cuts := u_35) o_35 (L := 1) (fun q hq => by
    unfold u_35 at hq
    simp only [List.mem_cons, List.not_mem_nil, or_false] at hq
    rcases hq with rfl
    · exact o_35_0) ih
theorem ko_36 {K : Nat} (ih : ∀ D, D < K → ∀ c, ∀ C ∈ tab c, q_KOK l dC dI dA Hb ad c C D) : q_KOK l dC dI dA Hb ad 53 k_36 K := q_body (cuts := u_36) o_36 (L := 1) (fun q hq => by
    unfold u_36 at hq
    simp only [List.mem_cons, List.not_mem_nil, or_false] at hq
    rcases hq with rfl
    · exact o_36_0) ih
theorem ko_37 {K : Nat} (ih : ∀ D, D < K → ∀ c, ∀ C ∈ tab c, q_KOK l dC dI dA Hb ad c C D) : q_KOK l dC dI dA Hb ad 52 k_37 K := q_body (cuts := u_37) o_37 (L := 0) (fun q hq => nomatch hq) ih
theorem ko_38 {K : Nat} (ih : ∀ D, D < K → ∀ c, ∀ C ∈ tab c, q_KOK l dC dI dA Hb ad c C D) : q_KOK l dC dI dA Hb ad 52 k_38 K := q_body (cuts := u_38) o_38 (L := 0) (fun q hq => nomatch hq) ih
theorem ko_39 {K : Nat} (ih : ∀ D, D < K → ∀ c, ∀ C ∈ tab c, q_KOK l dC dI dA Hb ad c C D) : q_KOK l dC dI dA Hb ad 52 k_39 K := q_body (cuts := u_39) o_39 (L := 0) (fun q hq => nomatch hq) ih
theorem ko_40 {K : Nat} (ih : ∀ D, D < K → ∀ c, ∀ C ∈ tab c, q_KOK l dC dI dA Hb ad c C D) : q_KOK l dC dI dA Hb ad 52 k_40 K := q_body (cuts := u_40) o_40 (L := 0) (fun q hq => nomatch hq) ih
theorem ko_41 {K : Nat} (ih : ∀ D, D < K → ∀ c, ∀ C ∈ tab c, q_KOK l dC dI dA Hb ad c C D) : q_KOK l dC dI dA Hb ad 52 k_41 K := q_body (cuts := u_41) o_41 (L := 0) (fun q hq => nomatch hq) ih
theorem ko_43 {K : Nat} (ih : ∀ D, D < K → ∀ c, ∀ C ∈ tab c, q_KOK l dC dI dA Hb ad c C D) : q_KOK l dC dI dA Hb ad 58 k_43 K := q_body (cuts := u_43) o_43 (L := 1) (fun q hq => by
    unfold u_43 at hq
    simp only [List.mem_cons, List.not_mem_nil, or_false] at hq
    rcases hq with rfl
    · exact o_43_0) ih
theorem ko_44 {K : Nat} (ih : ∀ D, D < K → ∀ c, ∀ C ∈ tab c, q_KOK l dC dI dA Hb ad c C D) : q_KOK l dC dI dA Hb ad 16 k_44 K := q_body (cuts := u_44) o_44 (L := 0) (fun q hq => nomatch hq) ih
theorem ko_45 {K : Nat} (ih : ∀ D, D < K → ∀ c, ∀ C ∈ tab c, q_KOK l dC dI dA Hb ad c C D) : q_KOK l dC dI dA Hb ad 19 k_45 K := q_body (cuts := u_45) o_45 (L := 0) (fun q hq => nomatch hq) ih
theorem ko_46 {K : Nat} (ih : ∀ D, D < K → ∀ c, ∀ C ∈ tab c, q_KOK l dC dI dA Hb ad c C D) : q_KOK l dC dI dA Hb ad 23 k_46 K := q_body (cuts := u_46) o_46 (L := 0) (fun q hq => nomatch hq) ih
theorem ko_47 {K : Nat} (ih : ∀ D, D < K → ∀ c, ∀ C ∈ tab c, q_KOK l dC dI dA Hb ad c C D) : q_KOK l dC dI dA Hb ad 63 k_47 K := q_body (cuts := u_47) o_47 (L := 0) (fun q hq => nomatch hq) ih
theorem ko_48 {K : Nat} (ih : ∀ D, D < K → ∀ c, ∀ C ∈ tab c, q_KOK l dC dI dA Hb ad c C D) : q_KOK l dC dI dA Hb ad 76 k_48 K := q_body (cuts := u_48) o_48 (L := 1) (fun q hq => by
    unfold u_48 at hq
    simp only [List.mem_cons, List.not_mem_nil, or_false] at hq
    rcases hq with rfl
    · exact o_48_0) ih
theorem ko_49 {K : Nat} (ih : ∀ D, D < K → ∀ c, ∀ C ∈ tab c, q_KOK l dC dI dA Hb ad c C D) : q_KOK l dC dI dA Hb ad 77 k_49 K := q_body (cuts := u_49) o_49 (L := 1) (fun q hq => by
    unfold u_49 at hq
    simp only [List.mem_cons, List.not_mem_nil, or_false] at hq
    rcases hq with rfl
    · exact o_49_0) ih
theorem ko_50 {K : Nat} (ih : ∀ D, D < K → ∀ c, ∀ C ∈ tab c, q_KOK l dC dI dA Hb ad c C D) : q_KOK l dC dI dA Hb ad 78 k_50 K := q_body (cuts := u_50) o_50 (L := 4) (fun q hq => by
    unfold u_50 at hq
    simp only [List.mem_cons, List.not_mem_nil, or_false] at hq
    rcases hq with rfl | rfl | rfl
    · exact o_50_0
    · exact o_50_1
    · exact o_50_2) ih
theorem ko_51 {K : Nat} (ih : ∀ D, D < K → ∀ c, ∀ C ∈ tab c, q_KOK l dC dI dA Hb ad c C D) : q_KOK l dC dI dA Hb ad 79 k_51 K := q_body (cuts := u_51) o_51 (L := 1) (fun q hq => by
    unfold u_51 at hq
    simp only [List.mem_cons, List.not_mem_nil, or_false] at hq
    rcases hq with rfl
    · exact o_51_0) ih
theorem ko_52 {K : Nat} (ih : ∀ D, D < K → ∀ c, ∀ C ∈ tab c, q_KOK l dC dI dA Hb ad c C D) : q_KOK l dC dI dA Hb ad 80 k_52 K := q_body (cuts := u_52) o_52 (L := 1) (fun q hq => by
    unfold u_52 at hq
    simp only [List.mem_cons, List.not_mem_nil, or_false] at hq
    rcases hq with rfl
    · exact o_52_0) ih
theorem ko_53 {K : Nat} (ih : ∀ D, D < K → ∀ c, ∀ C ∈ tab c, q_KOK l dC dI dA Hb ad c C D) : q_KOK l dC dI dA Hb ad 82 k_53 K := q_body (cuts := u_53) o_53 (L := 1) (fun q hq => by
    unfold u_53 at hq
    simp only [List.mem_cons, List.not_mem_nil, or_false] at hq
    rcases hq with rfl
    · exact o_53_0) ih
theorem ko_54 {K : Nat} (ih : ∀ D, D < K → ∀ c, ∀ C ∈ tab c, q_KOK l dC dI dA Hb ad c C D) : q_KOK l dC dI dA Hb ad 83 k_54 K := q_body (cuts := u_54) o_54 (L := 1) (fun q hq => by
    unfold u_54 at hq
    simp only [List.mem_cons, List.not_mem_nil, or_false] at hq
    rcases hq with rfl
    · exact o_54_0) ih
theorem ko_55 {K : Nat} (ih : ∀ D, D < K → ∀ c, ∀ C ∈ tab c, q_KOK l dC dI dA Hb ad c C D) : q_KOK l dC dI dA Hb ad 86 k_55 K := q_body (cuts := u_55) o_55 (L := 1) (fun q hq => by
    unfold u_55 at hq
    simp only [List.mem_cons, List.not_mem_nil, or_false] at hq
    rcases hq with rfl
    · exact o_55_0) ih
theorem ko_56 {K : Nat} (ih : ∀ D, D < K → ∀ c, ∀ C ∈ tab c, q_KOK l dC dI dA Hb ad c C D) : q_KOK l dC dI dA Hb ad 84 k_56 K := q_body (cuts := u_56) o_56 (L := 4) (fun q hq => by
    unfold u_56 at hq
    simp only [List.mem_cons, List.not_mem_nil, or_false] at hq
    rcases hq with rfl | rfl | rfl | rfl
    · exact o_56_0
    · exact o_56_1
    · exact o_56_2
    · exact o_56_3) ih
theorem ko_57 {K : Nat} (ih : ∀ D, D < K → ∀ c, ∀ C ∈ tab c, q_KOK l dC dI dA Hb ad c C D) : q_KOK l dC dI dA Hb ad 87 k_57 K := q_body (cuts := u_57) o_57 (L := 1) (fun q hq => by
    unfold u_57 at hq
    simp only [List.mem_cons, List.not_mem_nil, or_false] at hq
    rcases hq with rfl
    · exact o_57_0) ih
theorem ko_58 {K : Nat} (ih : ∀ D, D < K → ∀ c, ∀ C ∈ tab c, q_KOK l dC dI dA Hb ad c C D) : q_KOK l dC dI dA Hb ad 92 k_58 K := q_body (cuts := u_58) o_58 (L := 1) (fun q hq => by
    unfold u_58 at hq
    simp only [List.mem_cons, List.not_mem_nil, or_false] at hq
    rcases hq with rfl
    · exact o_58_0) ih
theorem ko_59 {K : Nat} (ih : ∀ D, D < K → ∀ c, ∀ C ∈ tab c, q_KOK l dC dI dA Hb ad c C D) : q_KOK l dC dI dA Hb ad 93 k_59 K := q_body (cuts := u_59) o_59 (L := 1) (fun q hq => by
    unfold u_59 at hq
    simp only [List.mem_cons, List.not_mem_nil, or_false] at hq
    rcases hq with rfl
    · exact o_59_0) ih
theorem ko_60 {K : Nat} (ih : ∀ D, D < K → ∀ c, ∀ C ∈ tab c, q_KOK l dC dI dA Hb ad c C D) : q_KOK l dC dI dA Hb ad 91 k_60 K := q_body (cuts := u_60) o_60 (L := 3) (fun q hq => by
    unfold u_60 at hq
    simp only [List.mem_cons, List.not_mem_nil, or_false] at hq
    rcases hq with rfl | rfl
    · exact o_60_0
    · exact o_60_1) ih
theorem ko_61 {K : Nat} (ih : ∀ D, D < K → ∀ c, ∀ C ∈ tab c, q_KOK l dC dI dA Hb ad c C D) : q_KOK l dC dI dA Hb ad 95 k_61 K := q_body (cuts := u_61) o_61 (L := 1) (fun q hq => by
    unfold u_61 at hq
    simp only [List.mem_cons, List.not_mem_nil, or_false] at hq
    rcases hq with rfl
    · exact o_61_0) ih
theorem ko_62 {K : Nat} (ih : ∀ D, D < K → ∀ c, ∀ C ∈ tab c, q_KOK l dC dI dA Hb ad c C D) : q_KOK l dC dI dA Hb ad 94 k_62 K := q_body (cuts := u_62) o_62 (L := 1) (fun q hq => by
    unfold u_62 at hq
    simp only [List.mem_cons, List.not_mem_nil, or_false] at hq
    rcases hq with rfl
    · exact o_62_0) ih
theorem ko_63 {K : Nat} (ih : ∀ D, D < K → ∀ c, ∀ C ∈ tab c, q_KOK l dC dI dA Hb ad c C D) : q_KOK l dC dI dA Hb ad 90 k_63 K := q_body (cuts := u_63) o_63 (L := 0) (fun q hq => by
    unfold u_63 at hq
    simp only [List.mem_cons, List.not_mem_nil, or_false] at hq
    rcases hq with rfl
    · exact o_63_0) ih
theorem ko_64 {K : Nat} (ih : ∀ D, D < K → ∀ c, ∀ C ∈ tab c, q_KOK l dC dI dA Hb ad c C D) : q_KOK l dC dI dA Hb ad 90 k_64 K := q_body (cuts := u_64) o_64 (L := 0) (fun q hq => nomatch hq) ih
theorem ko_65 {K : Nat} (ih : ∀ D, D < K → ∀ c, ∀ C ∈ tab c, q_KOK l dC dI dA Hb ad c C D) : q_KOK l dC dI dA Hb ad 90 k_65 K := q_body (cuts := u_65) o_65 (L := 1) (fun q hq => by
    unfold u_65 at hq
    simp only [List.mem_cons, List.not_mem_nil, or_false] at hq
    rcases hq with rfl | rfl | rfl
    · exact o_65_0
    · exact o_65_1
    · exact o_65_2) ih
theorem ko_66 {K : Nat} (ih : ∀ D, D < K → ∀ c, ∀ C ∈ tab c, q_KOK l dC dI dA Hb ad c C D) : q_KOK l dC dI dA Hb ad 90 k_66 K := q_body (cuts := u_66) o_66 (L := 0) (fun q hq => nomatch hq) ih
theorem ko_67 {K : Nat} (ih : ∀ D, D < K → ∀ c, ∀ C ∈ tab c, q_KOK l dC dI dA Hb ad c C D) : q_KOK l dC dI dA Hb ad 90 k_67 K := q_body (cuts := u_67) o_67 (L := 1) (fun q hq => by
    unfold u_67 at hq
    simp only [List.mem_cons, List.not_mem_nil, or_false] at hq
    rcases hq with rfl | rfl | rfl | rfl | rfl
    · exact o_67_0
    · exact o_67_1
    · exact o_67_2
    · exact o_67_3
    · exact o_67_4) ih
theorem ko_68 {K : Nat} (ih : ∀ D, D < K → ∀ c, ∀ C ∈ tab c, q_KOK l dC dI dA Hb ad c C D) : q_KOK l dC dI dA Hb ad 90 k_68 K := q_body (cuts := u_68) o_68 (L := 0) (fun q hq => nomatch hq) ih
theorem ko_69 {K : Nat} (ih : ∀ D, D < K → ∀ c, ∀ C ∈ tab c, q_KOK l dC dI dA Hb ad c C D) : q_KOK l dC dI dA Hb ad 90 k_69 K := q_body (cuts := u_69) o_69 (L := 1) (fun q hq => by
    unfold u_69 at hq
    simp only [List.mem_cons, List.not_mem_nil, or_false] at hq
    rcases hq with rfl | rfl | rfl | rfl | rfl | rfl | rfl
    · exact o_69_0
    · exact o_69_1
    · exact o_69_2
    · exact o_69_3
    · exact o_69_4
    · exact o_69_5
    · exact o_69_6) ih
theorem ko_70 {K : Nat} (ih : ∀ D, D < K → ∀ c, ∀ C ∈ tab c, q_KOK l dC dI dA Hb ad c C D) : q_KOK l dC dI dA Hb ad 90 k_70 K := q_body (cuts := u_70) o_70 (L := 0) (fun q hq => nomatch hq) ih
theorem ko_71 {K : Nat} (ih : ∀ D, D < K → ∀ c, ∀ C ∈ tab c, q_KOK l dC dI dA Hb ad c C D) : q_KOK l dC dI dA Hb ad 90 k_71 K := q_body (cuts := u_71) o_71 (L := 1) (fun q hq => by
    unfold u_71 at hq
    simp only [List.mem_cons, List.not_mem_nil, or_false] at hq
    rcases hq with rfl | rfl | rfl | rfl | rfl | rfl | rfl | rfl | rfl
    · exact o_71_0
    · exact o_71_1
    · exact o_71_2
    · exact o_71_3
    · exact o_71_4
    · exact o_71_5
    · exact o_71_6
    · exact o_71_7
    · exact o_71_8) ih
theorem ko_72 {K : Nat} (ih : ∀ D, D < K → ∀ c, ∀ C ∈ tab c, q_KOK l dC dI dA Hb ad c C D) : q_KOK l dC dI dA Hb ad 90 k_72 K := q_body (cuts := u_72) o_72 (L := 0) (fun q hq => nomatch hq) ih
theorem ko_73 {K : Nat} (ih : ∀ D, D < K → ∀ c, ∀ C ∈ tab c, q_KOK l dC dI dA Hb ad c C D) : q_KOK l dC dI dA Hb ad 90 k_73 K := q_body (cuts := u_73) o_73 (L := 1) (fun q hq => by
    unfold u_73 at hq
    simp only [List.mem_cons, List.not_mem_nil, or_false] at hq
    rcases hq with rfl | rfl | rfl | rfl | rfl | rfl | rfl | rfl | rfl | rfl | rfl
    · exact o_73_0
    · exact o_73_1
    · exact o_73_2
    · exact o_73_3
    · exact o_73_4
    · exact o_73_5
    · exact o_73_6
    · exact o_73_7
    · exact o_73_8
    · exact o_73_9
    · exact o_73_10) ih
theorem ko_74 {K : Nat} (ih : ∀ D, D < K → ∀ c, ∀ C ∈ tab c, q_KOK l dC dI dA Hb ad c C D) : q_KOK l dC dI dA Hb ad 90 k_74 K := q_body (cuts := u_74) o_74 (L := 0) (fun q hq => nomatch hq) ih
theorem ko_75 {K : Nat} (ih : ∀ D, D < K → ∀ c, ∀ C ∈ tab c, q_KOK l dC dI dA Hb ad c C D) : q_KOK l dC dI dA Hb ad 90 k_75 K := q_body (cuts := u_75) o_75 (L := 1) (fun q hq => by
    unfold u_75 at hq
    simp only [List.mem_cons, List.not_mem_nil, or_false] at hq
    rcases hq with rfl | rfl | rfl | rfl | rfl | rfl | rfl | rfl | rfl | rfl | rfl | rfl | rfl
    · exact o_75_0
    · exact o_75_1
    · exact o_75_2
    · exact o_75_3
    · exact o_75_4
    · exact o_75_5
    · exact o_75_6
    · exact o_75_7
    · exact o_75_8
    · exact o_75_9
    · exact o_75_10
    · exact o_75_11
    · exact o_75_12) ih
theorem ko_76 {K : Nat} (ih : ∀ D, D < K → ∀ c, ∀ C ∈ tab c, q_KOK l dC dI dA Hb ad c C D) : q_KOK l dC dI dA Hb ad 90 k_76 K := q_body (cuts := u_76) o_76 (L := 0) (fun q hq => nomatch hq) ih
theorem ko_77 {K : Nat} (ih : ∀ D, D < K → ∀ c, ∀ C ∈ tab c, q_KOK l dC dI dA Hb ad c C D) : q_KOK l dC dI dA Hb ad 90 k_77 K := q_body (cuts := u_77) o_77 (L := 1) (fun q hq => by
    unfold u_77 at hq
    simp only [List.mem_cons, List.not_mem_nil, or_false] at hq
    rcases hq with rfl | rfl | rfl | rfl | rfl | rfl | rfl | rfl | rfl | rfl | rfl | rfl | rfl | rfl | rfl
    · exact o_77_0
    · exact o_77_1
    · exact o_77_2
    · exact o_77_3
    · exact o_77_4
    · exact o_77_5
    · exact o_77_6
    · exact o_77_7
    · exact o_77_8
    · exact o_77_9
    · exact o_77_10
    · exact o_77_11
    · exact o_77_12
    · exact o_77_13
    · exact o_77_14) ih
theorem ko_78 {K : Nat} (ih : ∀ D, D < K → ∀ c, ∀ C ∈ tab c, q_KOK l dC dI dA Hb ad c C D) : q_KOK l dC dI dA Hb ad 90 k_78 K := q_body (cuts := u_78) o_78 (L := 0) (fun q hq => nomatch hq) ih
theorem ko_79 {K : Nat} (ih : ∀ D, D < K → ∀ c, ∀ C ∈ tab c, q_KOK l dC dI dA Hb ad c C D) : q_KOK l dC dI dA Hb ad 90 k_79 K := q_body (cuts := u_79) o_79 (L := 1) (fun q hq => by
    unfold u_79 at hq
    simp only [List.mem_cons, List.not_mem_nil, or_false] at hq
    rcases hq with rfl | rfl | rfl | rfl | rfl | rfl | rfl | rfl | rfl | rfl | rfl | rfl | rfl | rfl | rfl | rfl | rfl
    · exact o_79_0
    · exact o_79_1
    · exact o_79_2
    · exact o_79_3
    · exact o_79_4
    · exact o_79_5
    · exact o_79_6
    · exact o_79_7
    · exact o_79_8
    · exact o_79_9
    · exact o_79_10
    · exact o_79_11
    · exact o_79_12
    · exact o_79_13
    · exact o_79_14
    · exact o_79_15
    · exact o_79_16) ih
theorem ko_80 {K : Nat} (ih : ∀ D, D < K → ∀ c, ∀ C ∈ tab c, q_KOK l dC dI dA Hb ad c C D) : q_KOK l dC dI dA Hb ad 90 k_80 K := q_body (cuts := u_80) o_80 (L := 0) (fun q hq => nomatch hq) ih
theorem ko_81 {K : Nat} (ih : ∀ D, D < K → ∀ c, ∀ C ∈ tab c, q_KOK l dC dI dA Hb ad c C D) : q_KOK l dC dI dA Hb ad 98 k_81 K := q_body (cuts := u_81) o_81 (L := 1) (fun q hq => by
    unfold u_81 at hq
    simp only [List.mem_cons, List.not_mem_nil, or_false] at hq
    rcases hq with rfl
    · exact o_81_0) ih
theorem ko_82 {K : Nat} (ih : ∀ D, D < K → ∀ c, ∀ C ∈ tab c, q_KOK l dC dI dA Hb ad c C D) : q_KOK l dC dI dA Hb ad 101 k_82 K := q_body (cuts := u_82) o_82 (L := 0) (fun q hq => by
    unfold u_82 at hq
    simp only [List.mem_cons, List.not_mem_nil, or_false] at hq
    rcases hq with rfl
    · exact o_82_0) ih
theorem ko_83 {K : Nat} (ih : ∀ D, D < K → ∀ c, ∀ C ∈ tab c, q_KOK l dC dI dA Hb ad c C D) : q_KOK l dC dI dA Hb ad 101 k_83 K := q_body (cuts := u_83) o_83 (L := 0) (fun q hq => nomatch hq) ih
theorem ko_84 {K : Nat} (ih : ∀ D, D < K → ∀ c, ∀ C ∈ tab c, q_KOK l dC dI dA Hb ad c C D) : q_KOK l dC dI dA Hb ad 101 k_84 K := q_body (cuts := u_84) o_84 (L := 1) (fun q hq => by
    unfold u_84 at hq
    simp only [List.mem_cons, List.not_mem_nil, or_false] at hq
    rcases hq with rfl | rfl | rfl
    · exact o_84_0
    · exact o_84_1
    · exact o_84_2) ih
theorem ko_85 {K : Nat} (ih : ∀ D, D < K → ∀ c, ∀ C ∈ tab c, q_KOK l dC dI dA Hb ad c C D) : q_KOK l dC dI dA Hb ad 101 k_85 K := q_body (cuts := u_85) o_85 (L := 0) (fun q hq => nomatch hq) ih
theorem ko_86 {K : Nat} (ih : ∀ D, D < K → ∀ c, ∀ C ∈ tab c, q_KOK l dC dI dA Hb ad c C D) : q_KOK l dC dI dA Hb ad 101 k_86 K := q_body (cuts := u_86) o_86 (L := 1) (fun q hq => by
    unfold u_86 at hq
    simp only [List.mem_cons, List.not_mem_nil, or_false] at hq
    rcases hq with rfl | rfl | rfl | rfl | rfl
    · exact o_86_0
    · exact o_86_1
    · exact o_86_2
    · exact o_86_3
    · exact o_86_4) ih
theorem ko_87 {K : Nat} (ih : ∀ D, D < K → ∀ c, ∀ C ∈ tab c, q_KOK l dC dI dA Hb ad c C D) : q_KOK l dC dI dA Hb ad 101 k_87 K := q_body (cuts := u_87) o_87 (L := 0) (fun q hq => nomatch hq) ih
theorem ko_88 {K : Nat} (ih : ∀ D, D < K → ∀ c, ∀ C ∈ tab c, q_KOK l dC dI dA Hb ad c C D) : q_KOK l dC dI dA Hb ad 101 k_88 K := q_body (cuts := u_88) o_88 (L := 1) (fun q hq => by
    unfold u_88 at hq
    simp only [List.mem_cons, List.not_mem_nil, or_false] at hq
    rcases hq with rfl | rfl | rfl | rfl | rfl | rfl | rfl
    · exact o_88_0
    · exact o_88_1
    · exact o_88_2
    · exact o_88_3
    · exact o_88_4
    · exact o_88_5
    · exact o_88_6) ih
theorem ko_89 {K : Nat} (ih : ∀ D, D < K → ∀ c, ∀ C ∈ tab c, q_KOK l dC dI dA Hb ad c C D) : q_KOK l dC dI dA Hb ad 101 k_89 K := q_body (cuts := u_89) o_89 (L := 0) (fun q hq => nomatch hq) ih
theorem ko_90 {K : Nat} (ih : ∀ D, D < K → ∀ c, ∀ C ∈ tab c, q_KOK l dC dI dA Hb ad c C D) : q_KOK l dC dI dA Hb ad 101 k_90 K := q_body (cuts := u_90) o_90 (L := 1) (fun q hq => by
    unfold u_90 at hq
    simp only [List.mem_cons, List.not_mem_nil, or_false] at hq
    rcases hq with rfl | rfl | rfl | rfl | rfl | rfl | rfl | rfl | rfl
    · exact o_90_0
    · exact o_90_1
    · exact o_90_2
    · exact o_90_3
    · exact o_90_4
    · exact o_90_5
    · exact o_90_6
    · exact o_90_7
    · exact o_90_8) ih
theorem ko_91 {K : Nat} (ih : ∀ D, D < K → ∀ c, ∀ C ∈ tab c, q_KOK l dC dI dA Hb ad c C D) : q_KOK l dC dI dA Hb ad 101 k_91 K := q_body (cuts := u_91) o_91 (L := 0) (fun q hq => nomatch hq) ih
theorem ko_92 {K : Nat} (ih : ∀ D, D < K → ∀ c, ∀ C ∈ tab c, q_KOK l dC dI dA Hb ad c C D) : q_KOK l dC dI dA Hb ad 101 k_92 K := q_body (cuts := u_92) o_92 (L := 1) (fun q hq => by
    unfold u_92 at hq
    simp only [List.mem_cons, List.not_mem_nil, or_false] at hq
    rcases hq with rfl | rfl | rfl | rfl | rfl | rfl | rfl | rfl | rfl | rfl | rfl
    · exact o_92_0
    · exact o_92_1
    · exact o_92_2
    · exact o_92_3
    · exact o_92_4
    · exact o_92_5
    · exact o_92_6
    · exact o_92_7
    · exact o_92_8
    · exact o_92_9
    · exact o_92_10) ih
theorem ko_93 {K : Nat} (ih : ∀ D, D < K → ∀ c, ∀ C ∈ tab c, q_KOK l dC dI dA Hb ad c C D) : q_KOK l dC dI dA Hb ad 101 k_93 K := q_body (cuts := u_93) o_93 (L := 0) (fun q hq => nomatch hq) ih
theorem ko_94 {K : Nat} (ih : ∀ D, D < K → ∀ c, ∀ C ∈ tab c, q_KOK l dC dI dA Hb ad c C D) : q_KOK l dC dI dA Hb ad 101 k_94 K := q_body (cuts := u_94) o_94 (L := 1) (fun q hq => by
    unfold u_94 at hq
    simp only [List.mem_cons, List.not_mem_nil, or_false] at hq
    rcases hq with rfl | rfl | rfl | rfl | rfl | rfl | rfl | rfl | rfl | rfl | rfl | rfl | rfl
    · exact o_94_0
    · exact o_94_1
    · exact o_94_2
    · exact o_94_3
    · exact o_94_4
    · exact o_94_5
    · exact o_94_6
    · exact o_94_7
    · exact o_94_8
    · exact o_94_9
    · exact o_94_10
    · exact o_94_11
    · exact o_94_12) ih
theorem ko_95 {K : Nat} (ih : ∀ D, D < K → ∀ c, ∀ C ∈ tab c, q_KOK l dC dI dA Hb ad c C D) : q_KOK l dC dI dA Hb ad 101 k_95 K := q_body (cuts := u_95) o_95 (L := 0) (fun q hq => nomatch hq) ih
theorem ko_96 {K : Nat} (ih : ∀ D, D < K → ∀ c, ∀ C ∈ tab c, q_KOK l dC dI dA Hb ad c C D) : q_KOK l dC dI dA Hb ad 101 k_96 K := q_body (cuts := u_96) o_96 (L := 1) (fun q hq => by
    unfold u_96 at hq
    simp only [List.mem_cons, List.not_mem_nil, or_false] at hq
    rcases hq with rfl | rfl | rfl | rfl | rfl | rfl | rfl | rfl | rfl | rfl | rfl | rfl | rfl | rfl | rfl
    · exact o_96_0
    · exact o_96_1
    · exact o_96_2
    · exact o_96_3
    · exact o_96_4
    · exact o_96_5
    · exact o_96_6
    · exact o_96_7
    · exact o_96_8
    · exact o_96_9
    · exact o_96_10
    · exact o_96_11
    · exact o_96_12
    · exact o_96_13
    · exact o_96_14) ih
theorem ko_97 {K : Nat} (ih : ∀ D, D < K → ∀ c, ∀ C ∈ tab c, q_KOK l dC dI dA Hb ad c C D) : q_KOK l dC dI dA Hb ad 101 k_97 K := q_body (cuts := u_97) o_97 (L := 0) (fun q hq => nomatch hq) ih
theorem ko_98 {K : Nat} (ih : ∀ D, D < K → ∀ c, ∀ C ∈ tab c, q_KOK l dC dI dA Hb ad c C D) : q_KOK l dC dI dA Hb ad 103 k_98 K := q_body (cuts := u_98) o_98 (L := 1) (fun q hq => by
    unfold u_98 at hq
    simp only [List.mem_cons, List.not_mem_nil, or_false] at hq
    rcases hq with rfl
    · exact o_98_0) ih
theorem ko_99 {K : Nat} (ih : ∀ D, D < K → ∀ c, ∀ C ∈ tab c, q_KOK l dC dI dA Hb ad c C D) : q_KOK l dC dI dA Hb ad 102 k_99 K := q_body (cuts := u_99) o_99 (L := 1) (fun q hq => by
    unfold u_99 at hq
    simp only [List.mem_cons, List.not_mem_nil, or_false] at hq
    rcases hq with rfl
    · exact o_99_0) ih
theorem ko_100 {K : Nat} (ih : ∀ D, D < K → ∀ c, ∀ C ∈ tab c, q_KOK l dC dI dA Hb ad c C D) : q_KOK l dC dI dA Hb ad 105 k_100 K := q_body (cuts := u_100) o_100 (L := 1) (fun q hq => by
    unfold u_100 at hq
    simp only [List.mem_cons, List.not_mem_nil, or_false] at hq
    rcases hq with rfl
    · exact o_100_0) ih
theorem ko_101 {K : Nat} (ih : ∀ D, D < K → ∀ c, ∀ C ∈ tab c, q_KOK l dC dI dA Hb ad c C D) : q_KOK l dC dI dA Hb ad 104 k_101 K := q_body (cuts := u_101) o_101 (L := 2) (fun q hq => by
    unfold u_101 at hq
    simp only [List.mem_cons, List.not_mem_nil, or_false] at hq
    rcases hq with rfl | rfl
    · exact o_101_0
    · exact o_101_1) ih
theorem ko_102 {K : Nat} (ih : ∀ D, D < K → ∀ c, ∀ C ∈ tab c, q_KOK l dC dI dA Hb ad c C D) : q_KOK l dC dI dA Hb ad 107 k_102 K := q_body (cuts := u_102) o_102 (L := 1) (fun q hq => by
    unfold u_102 at hq
    simp only [List.mem_cons, List.not_mem_nil, or_false] at hq
    rcases hq with rfl
    · exact o_102_0) ih
theorem ko_103 {K : Nat} (ih : ∀ D, D < K → ∀ c, ∀ C ∈ tab c, q_KOK l dC dI dA Hb ad c C D) : q_KOK l dC dI dA Hb ad 170 k_103 K := q_body (cuts := u_103) o_103 (L := 0) (fun q hq => nomatch hq) ih
theorem ko_104 {K : Nat} (ih : ∀ D, D < K → ∀ c, ∀ C ∈ tab c, q_KOK l dC dI dA Hb ad c C D) : q_KOK l dC dI dA Hb ad 180 k_104 K := q_body (cuts := u_104) o_104 (L := 1) (fun q hq => by
    unfold u_104 at hq
    simp only [List.mem_cons, List.not_mem_nil, or_false] at hq
    rcases hq with rfl
    · exact o_104_0) ih
theorem ko_105 {K : Nat} (ih : ∀ D, D < K → ∀ c, ∀ C ∈ tab c, q_KOK l dC dI dA Hb ad c C D) : q_KOK l dC dI dA Hb ad 175 k_105 K := q_body (cuts := u_105) o_105 (L := 3) (fun q hq => by
    unfold u_105 at hq
    simp only [List.mem_cons, List.not_mem_nil, or_false] at hq
    rcases hq with rfl | rfl
    · exact o_105_0
    · exact o_105_1) ih
theorem ko_106 {K : Nat} (ih : ∀ D, D < K → ∀ c, ∀ C ∈ tab c, q_KOK l dC dI dA Hb ad c C D) : q_KOK l dC dI dA Hb ad 181 k_106 K := q_body (cuts := u_106) o_106 (L := 1) (fun q hq => by
    unfold u_106 at hq
    simp only [List.mem_cons, List.not_mem_nil, or_false] at hq
    rcases hq with rfl
    · exact o_106_0) ih
theorem ko_107 {K : Nat} (ih : ∀ D, D < K → ∀ c, ∀ C ∈ tab c, q_KOK l dC dI dA Hb ad c C D) : q_KOK l dC dI dA Hb ad 183 k_107 K := q_body (cuts := u_107) o_107 (L := 1) (fun q hq => by
    unfold u_107 at hq
    simp only [List.mem_cons, List.not_mem_nil, or_false] at hq
    rcases hq with rfl
    · exact o_107_0) ih
theorem ko_108 {K : Nat} (ih : ∀ D, D < K → ∀ c, ∀ C ∈ tab c, q_KOK l dC dI dA Hb ad c C D) : q_KOK l dC dI dA Hb ad 184 k_108 K := q_body (cuts := u_108) o_108 (L := 1) (fun q hq => by
    unfold u_108 at hq
    simp only [List.mem_cons, List.not_mem_nil, or_false] at hq
    rcases hq with rfl
    · exact o_108_0) ih
theorem ko_109 {K : Nat} (ih : ∀ D, D < K → ∀ c, ∀ C ∈ tab c, q_KOK l dC dI dA Hb ad c C D) : q_KOK l dC dI dA Hb ad 88 k_109 K := by
  refine q_split (j := 1) (lo := vP 0) (hi := vP 8) rfl fun z h1 h2 => ?_
  have hz : z = 0 ∨ z = 1 ∨ z = 2 ∨ z = 3 ∨ z = 4 ∨ z = 5 ∨ z = 6 ∨ z = 7 ∨ z = 8 := by
    have h1 : (0 : Int) ≤ z := h1
    have h2 : z ≤ (8 : Int) := h2
    omega
  rcases hz with rfl | rfl | rfl | rfl | rfl | rfl | rfl | rfl | rfl
  · exact q_body (cuts := w_109_0) o_109_0 (L := 2) (fun q hq => by
    unfold w_109_0 at hq
    simp only [List.mem_cons, List.not_mem_nil, or_false] at hq
    rcases hq with rfl | rfl | rfl
    · exact o_109_0_0
    · exact o_109_0_1
    · exact o_109_0_2) ih
  · exact q_body (cuts := w_109_1) o_109_1 (L := 2) (fun q hq => by
    unfold w_109_1 at hq
    simp only [List.mem_cons, List.not_mem_nil, or_false] at hq
    rcases hq with rfl | rfl | rfl
    · exact o_109_1_0
    · exact o_109_1_1
    · exact o_109_1_2) ih
  · exact q_body (cuts := w_109_2) o_109_2 (L := 2) (fun q hq => by
    unfold w_109_2 at hq
    simp only [List.mem_cons, List.not_mem_nil, or_false] at hq
    rcases hq with rfl | rfl | rfl
    · exact o_109_2_0
    · exact o_109_2_1
    · exact o_109_2_2) ih
  · exact q_body (cuts := w_109_3) o_109_3 (L := 2) (fun q hq => by
    unfold w_109_3 at hq
    simp only [List.mem_cons, List.not_mem_nil, or_false] at hq
    rcases hq with rfl | rfl | rfl
    · exact o_109_3_0
    · exact o_109_3_1
    · exact o_109_3_2) ih
  · exact q_body (cuts := w_109_4) o_109_4 (L := 2) (fun q hq => by
    unfold w_109_4 at hq
    simp only [List.mem_cons, List.not_mem_nil, or_false] at hq
    rcases hq with rfl | rfl | rfl
    · exact o_109_4_0
    · exact o_109_4_1
    · exact o_109_4_2) ih
  · exact q_body (cuts := w_109_5) o_109_5 (L := 2) (fun q hq => by
    unfold w_109_5 at hq
    simp only [List.mem_cons, List.not_mem_nil, or_false] at hq
    rcases hq with rfl | rfl | rfl
    · exact o_109_5_0
    · exact o_109_5_1
    · exact o_109_5_2) ih
  · exact q_body (cuts := w_109_6) o_109_6 (L := 2) (fun q hq => by
    unfold w_109_6 at hq
    simp only [List.mem_cons, List.not_mem_nil, or_false] at hq
    rcases hq with rfl | rfl | rfl
    · exact o_109_6_0
    · exact o_109_6_1
    · exact o_109_6_2) ih
  · exact q_body (cuts := w_109_7) o_109_7 (L := 2) (fun q hq => by
    unfold w_109_7 at hq
    simp only [List.mem_cons, List.not_mem_nil, or_false] at hq
    rcases hq with rfl | rfl | rfl
    · exact o_109_7_0
    · exact o_109_7_1
    · exact o_109_7_2) ih
  · exact q_body (cuts := w_109_8) o_109_8 (L := 2) (fun q hq => by
    unfold w_109_8 at hq
    simp only [List.mem_cons, List.not_mem_nil, or_false] at hq
    rcases hq with rfl | rfl | rfl
    · exact o_109_8_0
    · exact o_109_8_1
    · exact o_109_8_2) ih
theorem ko_110 {K : Nat} (ih : ∀ D, D < K → ∀ c, ∀ C ∈ tab c, q_KOK l dC dI dA Hb ad c C D) : q_KOK l dC dI dA Hb ad 99 k_110 K := by
  refine q_split (j := 0) (lo := vP 0) (hi := vP 7) rfl fun z h1 h2 => ?_
  have hz : z = 0 ∨ z = 1 ∨ z = 2 ∨ z = 3 ∨ z = 4 ∨ z = 5 ∨ z = 6 ∨ z = 7 := by
    have h1 : (0 : Int) ≤ z := h1
    have h2 : z ≤ (7 : Int) := h2
    omega
  rcases hz with rfl | rfl | rfl | rfl | rfl | rfl | rfl | rfl
  · exact q_body (cuts := w_110_0) o_110_0 (L := 1) (fun q hq => by
    unfold w_110_0 at hq
    simp only [List.mem_cons, List.not_mem_nil, or_false] at hq
    rcases hq with rfl | rfl
    · exact o_110_0_0
    · exact o_110_0_1) ih
  · exact q_body (cuts := w_110_1) o_110_1 (L := 2) (fun q hq => by
    unfold w_110_1 at hq
    simp only [List.mem_cons, List.not_mem_nil, or_false] at hq
    rcases hq with rfl | rfl
    · exact o_110_1_0
    · exact o_110_1_1) ih
  · exact q_body (cuts := w_110_2) o_110_2 (L := 2) (fun q hq => by
    unfold w_110_2 at hq
    simp only [List.mem_cons, List.not_mem_nil, or_false] at hq
    rcases hq with rfl | rfl | rfl
    · exact o_110_2_0
    · exact o_110_2_1
    · exact o_110_2_2) ih
  · exact q_body (cuts := w_110_3) o_110_3 (L := 2) (fun q hq => by
    unfold w_110_3 at hq
    simp only [List.mem_cons, List.not_mem_nil, or_false] at hq
    rcases hq with rfl | rfl | rfl
    · exact o_110_3_0
    · exact o_110_3_1
    · exact o_110_3_2) ih
  · exact q_body (cuts := w_110_4) o_110_4 (L := 2) (fun q hq => by
    unfold w_110_4 at hq
    simp only [List.mem_cons, List.not_mem_nil, or_false] at hq
    rcases hq with rfl | rfl | rfl
    · exact o_110_4_0
    · exact o_110_4_1
    · exact o_110_4_2) ih
  · exact q_body (cuts := w_110_5) o_110_5 (L := 2) (fun q hq => by
    unfold w_110_5 at hq
    simp only [List.mem_cons, List.not_mem_nil, or_false] at hq
    rcases hq with rfl | rfl | rfl
    · exact o_110_5_0
    · exact o_110_5_1
    · exact o_110_5_2) ih
  · exact q_body (cuts := w_110_6) o_110_6 (L := 2) (fun q hq => by
    unfold w_110_6 at hq
    simp only [List.mem_cons, List.not_mem_nil, or_false] at hq
    rcases hq with rfl | rfl | rfl
    · exact o_110_6_0
    · exact o_110_6_1
    · exact o_110_6_2) ih
  · exact q_body (cuts := w_110_7) o_110_7 (L := 2) (fun q hq => by
    unfold w_110_7 at hq
    simp only [List.mem_cons, List.not_mem_nil, or_false] at hq
    rcases hq with rfl | rfl | rfl
    · exact o_110_7_0
    · exact o_110_7_1
    · exact o_110_7_2) ih
theorem ko_111 {K : Nat} (ih : ∀ D, D < K → ∀ c, ∀ C ∈ tab c, q_KOK l dC dI dA Hb ad c C D) : q_KOK l dC dI dA Hb ad 112 k_111 K := q_body (cuts := u_111) o_111 (L := 0) (fun q hq => nomatch hq) ih
theorem ko_112 {K : Nat} (ih : ∀ D, D < K → ∀ c, ∀ C ∈ tab c, q_KOK l dC dI dA Hb ad c C D) : q_KOK l dC dI dA Hb ad 113 k_112 K := q_body (cuts := u_112) o_112 (L := 0) (fun q hq => nomatch hq) ih
theorem ko_113 {K : Nat} (ih : ∀ D, D < K → ∀ c, ∀ C ∈ tab c, q_KOK l dC dI dA Hb ad c C D) : q_KOK l dC dI dA Hb ad 114 k_113 K := q_body (cuts := u_113) o_113 (L := 0) (fun q hq => nomatch hq) ih
theorem ko_114 {K : Nat} (ih : ∀ D, D < K → ∀ c, ∀ C ∈ tab c, q_KOK l dC dI dA Hb ad c C D) : q_KOK l dC dI dA Hb ad 115 k_114 K := q_body (cuts := u_114) o_114 (L := 0) (fun q hq => nomatch hq) ih
theorem ko_115 {K : Nat} (ih : ∀ D, D < K → ∀ c, ∀ C ∈ tab c, q_KOK l dC dI dA Hb ad c C D) : q_KOK l dC dI dA Hb ad 116 k_115 K := q_body (cuts := u_115) o_115 (L := 0) (fun q hq => nomatch hq) ih
theorem ko_116 {K : Nat} (ih : ∀ D, D < K → ∀ c, ∀ C ∈ tab c, q_KOK l dC dI dA Hb ad c C D) : q_KOK l dC dI dA Hb ad 119 k_116 K := q_body (cuts := u_116) o_116 (L := 0) (fun q hq => nomatch hq) ih
theorem ko_117 {K : Nat} (ih : ∀ D, D < K → ∀ c, ∀ C ∈ tab c, q_KOK l dC dI dA Hb ad c C D) : q_KOK l dC dI dA Hb ad 120 k_117 K := q_body (cuts := u_117) o_117 (L := 0) (fun q hq => nomatch hq) ih
theorem ko_118 {K : Nat} (ih : ∀ D, D < K → ∀ c, ∀ C ∈ tab c, q_KOK l dC dI dA Hb ad c C D) : q_KOK l dC dI dA Hb ad 121 k_118 K := q_body (cuts := u_118) o_118 (L := 0) (fun q hq => nomatch hq) ih
theorem ko_119 {K : Nat} (ih : ∀ D, D < K → ∀ c, ∀ C ∈ tab c, q_KOK l dC dI dA Hb ad c C D) : q_KOK l dC dI dA Hb ad 122 k_119 K := q_body (cuts := u_119) o_119 (L := 1) (fun q hq => by
    unfold u_119 at hq
    simp only [List.mem_cons, List.not_mem_nil, or_false] at hq
    rcases hq with rfl
    · exact o_119_0) ih
theorem ko_120 {K : Nat} (ih : ∀ D, D < K → ∀ c, ∀ C ∈ tab c, q_KOK l dC dI dA Hb ad c C D) : q_KOK l dC dI dA Hb ad 123 k_120 K := q_body (cuts := u_120) o_120 (L := 0) (fun q hq => nomatch hq) ih
theorem ko_121 {K : Nat} (ih : ∀ D, D < K → ∀ c, ∀ C ∈ tab c, q_KOK l dC dI dA Hb ad c C D) : q_KOK l dC dI dA Hb ad 124 k_121 K := q_body (cuts := u_121) o_121 (L := 0) (fun q hq => nomatch hq) ih
theorem ko_122 {K : Nat} (ih : ∀ D, D < K → ∀ c, ∀ C ∈ tab c, q_KOK l dC dI dA Hb ad c C D) : q_KOK l dC dI dA Hb ad 125 k_122 K := q_body (cuts := u_122) o_122 (L := 0) (fun q hq => nomatch hq) ih
theorem ko_123 {K : Nat} (ih : ∀ D, D < K → ∀ c, ∀ C ∈ tab c, q_KOK l dC dI dA Hb ad c C D) : q_KOK l dC dI dA Hb ad 126 k_123 K := q_body (cuts := u_123) o_123 (L := 0) (fun q hq => nomatch hq) ih
theorem ko_124 {K : Nat} (ih : ∀ D, D < K → ∀ c, ∀ C ∈ tab c, q_KOK l dC dI dA Hb ad c C D) : q_KOK l dC dI dA Hb ad 127 k_124 K := q_body (cuts := u_124) o_124 (L := 0) (fun q hq => nomatch hq) ih
theorem ko_125 {K : Nat} (ih : ∀ D, D < K → ∀ c, ∀ C ∈ tab c, q_KOK l dC dI dA Hb ad c C D) : q_KOK l dC dI dA Hb ad 128 k_125 K := q_body (cuts := u_125) o_125 (L := 1) (fun q hq => by
    unfold u_125 at hq
    simp only [List.mem_cons, List.not_mem_nil, or_false] at hq
    rcases hq with rfl
    · exact o_125_0) ih
theorem ko_126 {K : Nat} (ih : ∀ D, D < K → ∀ c, ∀ C ∈ tab c, q_KOK l dC dI dA Hb ad c C D) : q_KOK l dC dI dA Hb ad 129 k_126 K := q_body (cuts := u_126) o_126 (L := 0) (fun q hq => nomatch hq) ih
theorem ko_127 {K : Nat} (ih : ∀ D, D < K → ∀ c, ∀ C ∈ tab c, q_KOK l dC dI dA Hb ad c C D) : q_KOK l dC dI dA Hb ad 131 k_127 K := q_body (cuts := u_127) o_127 (L := 0) (fun q hq => nomatch hq) ih
theorem ko_128 {K : Nat} (ih : ∀ D, D < K → ∀ c, ∀ C ∈ tab c, q_KOK l dC dI dA Hb ad c C D) : q_KOK l dC dI dA Hb ad 132 k_128 K := q_body (cuts := u_128) o_128 (L := 0) (fun q hq => nomatch hq) ih
theorem ko_129 {K : Nat} (ih : ∀ D, D < K → ∀ c, ∀ C ∈ tab c, q_KOK l dC dI dA Hb ad c C D) : q_KOK l dC dI dA Hb ad 133 k_129 K := q_body (cuts := u_129) o_129 (L := 0) (fun q hq => nomatch hq) ih
theorem ko_130 {K : Nat} (ih : ∀ D, D < K → ∀ c, ∀ C ∈ tab c, q_KOK l dC dI dA Hb ad c C D) : q_KOK l dC dI dA Hb ad 134 k_130 K := q_body (cuts := u_130) o_130 (L := 0) (fun q hq => nomatch hq) ih
theorem ko_131 {K : Nat} (ih : ∀ D, D < K → ∀ c, ∀ C ∈ tab c, q_KOK l dC dI dA Hb ad c C D) : q_KOK l dC dI dA Hb ad 135 k_131 K := q_body (cuts := u_131) o_131 (L := 0) (fun q hq => nomatch hq) ih
theorem ko_132 {K : Nat} (ih : ∀ D, D < K → ∀ c, ∀ C ∈ tab c, q_KOK l dC dI dA Hb ad c C D) : q_KOK l dC dI dA Hb ad 136 k_132 K := q_body (cuts := u_132) o_132 (L := 0) (fun q hq => nomatch hq) ih
theorem ko_133 {K : Nat} (ih : ∀ D, D < K → ∀ c, ∀ C ∈ tab c, q_KOK l dC dI dA Hb ad c C D) : q_KOK l dC dI dA Hb ad 137 k_133 K := q_body (cuts := u_133) o_133 (L := 0) (fun q hq => nomatch hq) ih
theorem ko_134 {K : Nat} (ih : ∀ D, D < K → ∀ c, ∀ C ∈ tab c, q_KOK l dC dI dA Hb ad c C D) : q_KOK l dC dI dA Hb ad 138 k_134 K := q_body (cuts := u_134) o_134 (L := 0) (fun q hq => nomatch hq) ih
theorem ko_135 {K : Nat} (ih : ∀ D, D < K → ∀ c, ∀ C ∈ tab c, q_KOK l dC dI dA Hb ad c C D) : q_KOK l dC dI dA Hb ad 139 k_135 K := q_body (cuts := u_135) o_135 (L := 1) (fun q hq => by
    unfold u_135 at hq
    simp only [List.mem_cons, List.not_mem_nil, or_false] at hq
    rcases hq with rfl
    · exact o_135_0) ih
theorem ko_136 {K : Nat} (ih : ∀ D, D < K → ∀ c, ∀ C ∈ tab c, q_KOK l dC dI dA Hb ad c C D) : q_KOK l dC dI dA Hb ad 140 k_136 K := q_body (cuts := u_136) o_136 (L := 0) (fun q hq => nomatch hq) ih
theorem ko_137 {K : Nat} (ih : ∀ D, D < K → ∀ c, ∀ C ∈ tab c, q_KOK l dC dI dA Hb ad c C D) : q_KOK l dC dI dA Hb ad 141 k_137 K := q_body (cuts := u_137) o_137 (L := 0) (fun q hq => nomatch hq) ih
theorem ko_138 {K : Nat} (ih : ∀ D, D < K → ∀ c, ∀ C ∈ tab c, q_KOK l dC dI dA Hb ad c C D) : q_KOK l dC dI dA Hb ad 142 k_138 K := q_body (cuts := u_138) o_138 (L := 1) (fun q hq => by
    unfold u_138 at hq
    simp only [List.mem_cons, List.not_mem_nil, or_false] at hq
    rcases hq with rfl
    · exact o_138_0) ih
theorem ko_139 {K : Nat} (ih : ∀ D, D < K → ∀ c, ∀ C ∈ tab c, q_KOK l dC dI dA Hb ad c C D) : q_KOK l dC dI dA Hb ad 143 k_139 K := q_body (cuts := u_139) o_139 (L := 1) (fun q hq => by
    unfold u_139 at hq
    simp only [List.mem_cons, List.not_mem_nil, or_false] at hq
    rcases hq with rfl
    · exact o_139_0) ih
theorem ko_140 {K : Nat} (ih : ∀ D, D < K → ∀ c, ∀ C ∈ tab c, q_KOK l dC dI dA Hb ad c C D) : q_KOK l dC dI dA Hb ad 144 k_140 K := q_body (cuts := u_140) o_140 (L := 1) (fun q hq => by
    unfold u_140 at hq
    simp only [List.mem_cons, List.not_mem_nil, or_false] at hq
    rcases hq with rfl
    · exact o_140_0) ih
theorem ko_141 {K : Nat} (ih : ∀ D, D < K → ∀ c, ∀ C ∈ tab c, q_KOK l dC dI dA Hb ad c C D) : q_KOK l dC dI dA Hb ad 145 k_141 K := q_body (cuts := u_141) o_141 (L := 1) (fun q hq => by
    unfold u_141 at hq
    simp only [List.mem_cons, List.not_mem_nil, or_false] at hq
    rcases hq with rfl
    · exact o_141_0) ih
theorem ko_142 {K : Nat} (ih : ∀ D, D < K → ∀ c, ∀ C ∈ tab c, q_KOK l dC dI dA Hb ad c C D) : q_KOK l dC dI dA Hb ad 146 k_142 K := q_body (cuts := u_142) o_142 (L := 0) (fun q hq => nomatch hq) ih
theorem ko_143 {K : Nat} (ih : ∀ D, D < K → ∀ c, ∀ C ∈ tab c, q_KOK l dC dI dA Hb ad c C D) : q_KOK l dC dI dA Hb ad 147 k_143 K := q_body (cuts := u_143) o_143 (L := 1) (fun q hq => by
    unfold u_143 at hq
    simp only [List.mem_cons, List.not_mem_nil, or_false] at hq
    rcases hq with rfl
    · exact o_143_0) ih
theorem ko_144 {K : Nat} (ih : ∀ D, D < K → ∀ c, ∀ C ∈ tab c, q_KOK l dC dI dA Hb ad c C D) : q_KOK l dC dI dA Hb ad 148 k_144 K := q_body (cuts := u_144) o_144 (L := 0) (fun q hq => nomatch hq) ih
theorem ko_145 {K : Nat} (ih : ∀ D, D < K → ∀ c, ∀ C ∈ tab c, q_KOK l dC dI dA Hb ad c C D) : q_KOK l dC dI dA Hb ad 149 k_145 K := q_body (cuts := u_145) o_145 (L := 0) (fun q hq => nomatch hq) ih
theorem ko_146 {K : Nat} (ih : ∀ D, D < K → ∀ c, ∀ C ∈ tab c, q_KOK l dC dI dA Hb ad c C D) : q_KOK l dC dI dA Hb ad 150 k_146 K := q_body (cuts := u_146) o_146 (L := 1) (fun q hq => by
    unfold u_146 at hq
    simp only [List.mem_cons, List.not_mem_nil, or_false] at hq
    rcases hq with rfl
    · exact o_146_0) ih
theorem ko_147 {K : Nat} (ih : ∀ D, D < K → ∀ c, ∀ C ∈ tab c, q_KOK l dC dI dA Hb ad c C D) : q_KOK l dC dI dA Hb ad 151 k_147 K := q_body (cuts := u_147) o_147 (L := 1) (fun q hq => by
    unfold u_147 at hq
    simp only [List.mem_cons, List.not_mem_nil, or_false] at hq
    rcases hq with rfl
    · exact o_147_0) ih
theorem ko_148 {K : Nat} (ih : ∀ D, D < K → ∀ c, ∀ C ∈ tab c, q_KOK l dC dI dA Hb ad c C D) : q_KOK l dC dI dA Hb ad 152 k_148 K := q_body (cuts := u_148) o_148 (L := 1) (fun q hq => by
    unfold u_148 at hq
    simp only [List.mem_cons, List.not_mem_nil, or_false] at hq
    rcases hq with rfl
    · exact o_148_0) ih
theorem ko_149 {K : Nat} (ih : ∀ D, D < K → ∀ c, ∀ C ∈ tab c, q_KOK l dC dI dA Hb ad c C D) : q_KOK l dC dI dA Hb ad 153 k_149 K := q_body (cuts := u_149) o_149 (L := 0) (fun q hq => nomatch hq) ih
theorem ko_150 {K : Nat} (ih : ∀ D, D < K → ∀ c, ∀ C ∈ tab c, q_KOK l dC dI dA Hb ad c C D) : q_KOK l dC dI dA Hb ad 154 k_150 K := q_body (cuts := u_150) o_150 (L := 0) (fun q hq => nomatch hq) ih
theorem ko_151 {K : Nat} (ih : ∀ D, D < K → ∀ c, ∀ C ∈ tab c, q_KOK l dC dI dA Hb ad c C D) : q_KOK l dC dI dA Hb ad 155 k_151 K := q_body (cuts := u_151) o_151 (L := 0) (fun q hq => nomatch hq) ih
theorem ko_152 {K : Nat} (ih : ∀ D, D < K → ∀ c, ∀ C ∈ tab c, q_KOK l dC dI dA Hb ad c C D) : q_KOK l dC dI dA Hb ad 156 k_152 K := q_body (cuts := u_152) o_152 (L := 0) (fun q hq => nomatch hq) ih
theorem ko_153 {K : Nat} (ih : ∀ D, D < K → ∀ c, ∀ C ∈ tab c, q_KOK l dC dI dA Hb ad c C D) : q_KOK l dC dI dA Hb ad 157 k_153 K := q_body (cuts := u_153) o_153 (L := 0) (fun q hq => nomatch hq) ih
theorem ko_154 {K : Nat} (ih : ∀ D, D < K → ∀ c, ∀ C ∈ tab c, q_KOK l dC dI dA Hb ad c C D) : q_KOK l dC dI dA Hb ad 158 k_154 K := q_body (cuts := u_154) o_154 (L := 0) (fun q hq => nomatch hq) ih
theorem ko_155 {K : Nat} (ih : ∀ D, D < K → ∀ c, ∀ C ∈ tab c, q_KOK l dC dI dA Hb ad c C D) : q_KOK l dC dI dA Hb ad 159 k_155 K := q_body (cuts := u_155) o_155 (L := 0) (fun q hq => nomatch hq) ih
theorem ko_156 {K : Nat} (ih : ∀ D, D < K → ∀ c, ∀ C ∈ tab c, q_KOK l dC dI dA Hb ad c C D) : q_KOK l dC dI dA Hb ad 160 k_156 K := q_body (cuts := u_156) o_156 (L := 0) (fun q hq => nomatch hq) ih
theorem ko_157 {K : Nat} (ih : ∀ D, D < K → ∀ c, ∀ C ∈ tab c, q_KOK l dC dI dA Hb ad c C D) : q_KOK l dC dI dA Hb ad 161 k_157 K := q_body (cuts := u_157) o_157 (L := 0) (fun q hq => nomatch hq) ih
theorem ko_158 {K : Nat} (ih : ∀ D, D < K → ∀ c, ∀ C ∈ tab c, q_KOK l dC dI dA Hb ad c C D) : q_KOK l dC dI dA Hb ad 195 k_158 K := q_body (cuts := u_158) o_158 (L := 0) (fun q hq => nomatch hq) ih
theorem ko_159 {K : Nat} (ih : ∀ D, D < K → ∀ c, ∀ C ∈ tab c, q_KOK l dC dI dA Hb ad c C D) : q_KOK l dC dI dA Hb ad 205 k_159 K := q_body (cuts := u_159) o_159 (L := 4) (fun q hq => by
    unfold u_159 at hq
    simp only [List.mem_cons, List.not_mem_nil, or_false] at hq
    rcases hq with rfl | rfl | rfl | rfl | rfl | rfl
    · exact o_159_0
    · exact o_159_1
    · exact o_159_2
    · exact o_159_3
    · exact o_159_4
    · exact o_159_5) ih
theorem ko_160 {K : Nat} (ih : ∀ D, D < K → ∀ c, ∀ C ∈ tab c, q_KOK l dC dI dA Hb ad c C D) : q_KOK l dC dI dA Hb ad 206 k_160 K := q_body (cuts := u_160) o_160 (L := 2) (fun q hq => by
    unfold u_160 at hq
    simp only [List.mem_cons, List.not_mem_nil, or_false] at hq
    rcases hq with rfl | rfl | rfl | rfl
    · exact o_160_0
    · exact o_160_1
    · exact o_160_2
    · exact o_160_3) ih
theorem ko_161 {K : Nat} (ih : ∀ D, D < K → ∀ c, ∀ C ∈ tab c, q_KOK l dC dI dA Hb ad c C D) : q_KOK l dC dI dA Hb ad 286 k_161 K := q_body (cuts := u_161) o_161 (L := 1) (fun q hq => by
    unfold u_161 at hq
    simp only [List.mem_cons, List.not_mem_nil, or_false] at hq
    rcases hq with rfl
    · exact o_161_0) ih
theorem ko_162 {K : Nat} (ih : ∀ D, D < K → ∀ c, ∀ C ∈ tab c, q_KOK l dC dI dA Hb ad c C D) : q_KOK l dC dI dA Hb ad 217 k_162 K := q_body (cuts := u_162) o_162 (L := 1) (fun q hq => by
    unfold u_162 at hq
    simp only [List.mem_cons, List.not_mem_nil, or_false] at hq
    rcases hq with rfl
    · exact o_162_0) ih
theorem ko_163 {K : Nat} (ih : ∀ D, D < K → ∀ c, ∀ C ∈ tab c, q_KOK l dC dI dA Hb ad c C D) : q_KOK l dC dI dA Hb ad 223 k_163 K := q_body (cuts := u_163) o_163 (L := 1) (fun q hq => by
    unfold u_163 at hq
    simp only [List.mem_cons, List.not_mem_nil, or_false] at hq
    rcases hq with rfl
    · exact o_163_0) ih
theorem ko_164 {K : Nat} (ih : ∀ D, D < K → ∀ c, ∀ C ∈ tab c, q_KOK l dC dI dA Hb ad c C D) : q_KOK l dC dI dA Hb ad 228 k_164 K := q_body (cuts := u_164) o_164 (L := 0) (fun q hq => nomatch hq) ih
theorem ko_165 {K : Nat} (ih : ∀ D, D < K → ∀ c, ∀ C ∈ tab c, q_KOK l dC dI dA Hb ad c C D) : q_KOK l dC dI dA Hb ad 228 k_165 K := q_body (cuts := u_165) o_165 (L := 0) (fun q hq => nomatch hq) ih
theorem ko_166 {K : Nat} (ih : ∀ D, D < K → ∀ c, ∀ C ∈ tab c, q_KOK l dC dI dA Hb ad c C D) : q_KOK l dC dI dA Hb ad 228 k_166 K := q_body (cuts := u_166) o_166 (L := 0) (fun q hq => nomatch hq) ih
theorem ko_169 {K : Nat} (ih : ∀ D, D < K → ∀ c, ∀ C ∈ tab c, q_KOK l dC dI dA Hb ad c C D) : q_KOK l dC dI dA Hb ad 241 k_169 K := q_body (cuts := u_169) o_169 (L := 0) (fun q hq => nomatch hq) ih
theorem ko_170 {K : Nat} (ih : ∀ D, D < K → ∀ c, ∀ C ∈ tab c, q_KOK l dC dI dA Hb ad c C D) : q_KOK l dC dI dA Hb ad 288 k_170 K := q_body (cuts := u_170) o_170 (L := 0) (fun q hq => nomatch hq) ih
theorem ko_171 {K : Nat} (ih : ∀ D, D < K → ∀ c, ∀ C ∈ tab c, q_KOK l dC dI dA Hb ad c C D) : q_KOK l dC dI dA Hb ad 243 k_171 K := q_body (cuts := u_171) o_171 (L := 1) (fun q hq => by
    unfold u_171 at hq
    simp only [List.mem_cons, List.not_mem_nil, or_false] at hq
    rcases hq with rfl
    · exact o_171_0) ih
theorem ko_172 {K : Nat} (ih : ∀ D, D < K → ∀ c, ∀ C ∈ tab c, q_KOK l dC dI dA Hb ad c C D) : q_KOK l dC dI dA Hb ad 289 k_172 K := q_body (cuts := u_172) o_172 (L := 1) (fun q hq => by
    unfold u_172 at hq
    simp only [List.mem_cons, List.not_mem_nil, or_false] at hq
    rcases hq with rfl
    · exact o_172_0) ih
theorem ko_173 {K : Nat} (ih : ∀ D, D < K → ∀ c, ∀ C ∈ tab c, q_KOK l dC dI dA Hb ad c C D) : q_KOK l dC dI dA Hb ad 245 k_173 K := q_body (cuts := u_173) o_173 (L := 4) (fun q hq => by
    unfold u_173 at hq
    simp only [List.mem_cons, List.not_mem_nil, or_false] at hq
    rcases hq with rfl | rfl | rfl
    · exact o_173_0
    · exact o_173_1
    · exact o_173_2) ih
theorem ko_174 {K : Nat} (ih : ∀ D, D < K → ∀ c, ∀ C ∈ tab c, q_KOK l dC dI dA Hb ad c C D) : q_KOK l dC dI dA Hb ad 246 k_174 K := q_body (cuts := u_174) o_174 (L := 3) (fun q hq => by
    unfold u_174 at hq
    simp only [List.mem_cons, List.not_mem_nil, or_false] at hq
    rcases hq with rfl | rfl
    · exact o_174_0
    · exact o_174_1) ih
theorem ko_175 {K : Nat} (ih : ∀ D, D < K → ∀ c, ∀ C ∈ tab c, q_KOK l dC dI dA Hb ad c C D) : q_KOK l dC dI dA Hb ad 246 k_175 K := q_body (cuts := u_175) o_175 (L := 3) (fun q hq => by
    unfold u_175 at hq
    simp only [List.mem_cons, List.not_mem_nil, or_false] at hq
    rcases hq with rfl | rfl
    · exact o_175_0
    · exact o_175_1) ih
theorem ko_176 {K : Nat} (ih : ∀ D, D < K → ∀ c, ∀ C ∈ tab c, q_KOK l dC dI dA Hb ad c C D) : q_KOK l dC dI dA Hb ad 246 k_176 K := q_body (cuts := u_176) o_176 (L := 3) (fun q hq => by
    unfold u_176 at hq
    simp only [List.mem_cons, List.not_mem_nil, or_false] at hq
    rcases hq with rfl | rfl
    · exact o_176_0
    · exact o_176_1) ih
theorem ko_177 {K : Nat} (ih : ∀ D, D < K → ∀ c, ∀ C ∈ tab c, q_KOK l dC dI dA Hb ad c C D) : q_KOK l dC dI dA Hb ad 246 k_177 K := q_body (cuts := u_177) o_177 (L := 3) (fun q hq => by
    unfold u_177 at hq
    simp only [List.mem_cons, List.not_mem_nil, or_false] at hq
    rcases hq with rfl | rfl
    · exact o_177_0
    · exact o_177_1) ih
theorem ko_178 {K : Nat} (ih : ∀ D, D < K → ∀ c, ∀ C ∈ tab c, q_KOK l dC dI dA Hb ad c C D) : q_KOK l dC dI dA Hb ad 246 k_178 K := q_body (cuts := u_178) o_178 (L := 3) (fun q hq => by
    unfold u_178 at hq
    simp only [List.mem_cons, List.not_mem_nil, or_false] at hq
    rcases hq with rfl | rfl
    · exact o_178_0
    · exact o_178_1) ih
theorem ko_179 {K : Nat} (ih : ∀ D, D < K → ∀ c, ∀ C ∈ tab c, q_KOK l dC dI dA Hb ad c C D) : q_KOK l dC dI dA Hb ad 246 k_179 K := q_body (cuts := u_179) o_179 (L := 3) (fun q hq => by
    unfold u_179 at hq
    simp only [List.mem_cons, List.not_mem_nil, or_false] at hq
    rcases hq with rfl | rfl
    · exact o_179_0
    · exact o_179_1) ih
theorem ko_180 {K : Nat} (ih : ∀ D, D < K → ∀ c, ∀ C ∈ tab c, q_KOK l dC dI dA Hb ad c C D) : q_KOK l dC dI dA Hb ad 246 k_180 K := q_body (cuts := u_180) o_180 (L := 3) (fun q hq => by
    unfold u_180 at hq
    simp only [List.mem_cons, List.not_mem_nil, or_false] at hq
    rcases hq with rfl | rfl
    · exact o_180_0
    · exact o_180_1) ih
theorem ko_181 {K : Nat} (ih : ∀ D, D < K → ∀ c, ∀ C ∈ tab c, q_KOK l dC dI dA Hb ad c C D) : q_KOK l dC dI dA Hb ad 246 k_181 K := q_body (cuts := u_181) o_181 (L := 3) (fun q hq => by
    unfold u_181 at hq
    simp only [List.mem_cons, List.not_mem_nil, or_false] at hq
    rcases hq with rfl | rfl
    · exact o_181_0
    · exact o_181_1) ih
theorem ko_182 {K : Nat} (ih : ∀ D, D < K → ∀ c, ∀ C ∈ tab c, q_KOK l dC dI dA Hb ad c C D) : q_KOK l dC dI dA Hb ad 246 k_182 K := q_body (cuts := u_182) o_182 (L := 3) (fun q hq => by
    unfold u_182 at hq
    simp only [List.mem_cons, List.not_mem_nil, or_false] at hq
    rcases hq with rfl | rfl
    · exact o_182_0
    · exact o_182_1) ih
theorem ko_183 {K : Nat} (ih : ∀ D, D < K → ∀ c, ∀ C ∈ tab c, q_KOK l dC dI dA Hb ad c C D) : q_KOK l dC dI dA Hb ad 246 k_183 K := q_body (cuts := u_183) o_183 (L := 3) (fun q hq => by
    unfold u_183 at hq
    simp only [List.mem_cons, List.not_mem_nil, or_false] at hq
    rcases hq with rfl | rfl
    · exact o_183_0
    · exact o_183_1) ih
theorem ko_184 {K : Nat} (ih : ∀ D, D < K → ∀ c, ∀ C ∈ tab c, q_KOK l dC dI dA Hb ad c C D) : q_KOK l dC dI dA Hb ad 246 k_184 K := q_body (cuts := u_184) o_184 (L := 3) (fun q hq => by
    unfold u_184 at hq
    simp only [List.mem_cons, List.not_mem_nil, or_false] at hq
    rcases hq with rfl | rfl
    · exact o_184_0
    · exact o_184_1) ih
theorem ko_185 {K : Nat} (ih : ∀ D, D < K → ∀ c, ∀ C ∈ tab c, q_KOK l dC dI dA Hb ad c C D) : q_KOK l dC dI dA Hb ad 246 k_185 K := q_body (cuts := u_185) o_185 (L := 3) (fun q hq => by
    unfold u_185 at hq
    simp only [List.mem_cons, List.not_mem_nil, or_false] at hq
    rcases hq with rfl | rfl
    · exact o_185_0
    · exact o_185_1) ih
theorem ko_186 {K : Nat} (ih : ∀ D, D < K → ∀ c, ∀ C ∈ tab c, q_KOK l dC dI dA Hb ad c C D) : q_KOK l dC dI dA Hb ad 246 k_186 K := q_body (cuts := u_186) o_186 (L := 3) (fun q hq => by
    unfold u_186 at hq
    simp only [List.mem_cons, List.not_mem_nil, or_false] at hq
    rcases hq with rfl | rfl
    · exact o_186_0
    · exact o_186_1) ih
theorem ko_187 {K : Nat} (ih : ∀ D, D < K → ∀ c, ∀ C ∈ tab c, q_KOK l dC dI dA Hb ad c C D) : q_KOK l dC dI dA Hb ad 246 k_187 K := q_body (cuts := u_187) o_187 (L := 3) (fun q hq => by
    unfold u_187 at hq
    simp only [List.mem_cons, List.not_mem_nil, or_false] at hq
    rcases hq with rfl | rfl
    · exact o_187_0
    · exact o_187_1) ih
theorem ko_188 {K : Nat} (ih : ∀ D, D < K → ∀ c, ∀ C ∈ tab c, q_KOK l dC dI dA Hb ad c C D) : q_KOK l dC dI dA Hb ad 246 k_188 K := q_body (cuts := u_188) o_188 (L := 3) (fun q hq => by
    unfold u_188 at hq
    simp only [List.mem_cons, List.not_mem_nil, or_false] at hq
    rcases hq with rfl | rfl
    · exact o_188_0
    · exact o_188_1) ih
theorem ko_189 {K : Nat} (ih : ∀ D, D < K → ∀ c, ∀ C ∈ tab c, q_KOK l dC dI dA Hb ad c C D) : q_KOK l dC dI dA Hb ad 246 k_189 K := q_body (cuts := u_189) o_189 (L := 3) (fun q hq => by
    unfold u_189 at hq
    simp only [List.mem_cons, List.not_mem_nil, or_false] at hq
    rcases hq with rfl | rfl
    · exact o_189_0
    · exact o_189_1) ih
theorem ko_190 {K : Nat} (ih : ∀ D, D < K → ∀ c, ∀ C ∈ tab c, q_KOK l dC dI dA Hb ad c C D) : q_KOK l dC dI dA Hb ad 246 k_190 K := q_body (cuts := u_190) o_190 (L := 3) (fun q hq => by
    unfold u_190 at hq
    simp only [List.mem_cons, List.not_mem_nil, or_false] at hq
    rcases hq with rfl | rfl
    · exact o_190_0
    · exact o_190_1) ih
theorem ko_191 {K : Nat} (ih : ∀ D, D < K → ∀ c, ∀ C ∈ tab c, q_KOK l dC dI dA Hb ad c C D) : q_KOK l dC dI dA Hb ad 246 k_191 K := q_body (cuts := u_191) o_191 (L := 3) (fun q hq => by
    unfold u_191 at hq
    simp only [List.mem_cons, List.not_mem_nil, or_false] at hq
    rcases hq with rfl | rfl
    · exact o_191_0
    · exact o_191_1) ih
theorem ko_192 {K : Nat} (ih : ∀ D, D < K → ∀ c, ∀ C ∈ tab c, q_KOK l dC dI dA Hb ad c C D) : q_KOK l dC dI dA Hb ad 246 k_192 K := q_body (cuts := u_192) o_192 (L := 3) (fun q hq => by
    unfold u_192 at hq
    simp only [List.mem_cons, List.not_mem_nil, or_false] at hq
    rcases hq with rfl | rfl
    · exact o_192_0
    · exact o_192_1) ih
theorem ko_193 {K : Nat} (ih : ∀ D, D < K → ∀ c, ∀ C ∈ tab c, q_KOK l dC dI dA Hb ad c C D) : q_KOK l dC dI dA Hb ad 246 k_193 K := q_body (cuts := u_193) o_193 (L := 3) (fun q hq => by
    unfold u_193 at hq
    simp only [List.mem_cons, List.not_mem_nil, or_false] at hq
    rcases hq with rfl | rfl
    · exact o_193_0
    · exact o_193_1) ih
theorem ko_194 {K : Nat} (ih : ∀ D, D < K → ∀ c, ∀ C ∈ tab c, q_KOK l dC dI dA Hb ad c C D) : q_KOK l dC dI dA Hb ad 246 k_194 K := q_body (cuts := u_194) o_194 (L := 0) (fun q hq => nomatch hq) ih
theorem ko_195 {K : Nat} (ih : ∀ D, D < K → ∀ c, ∀ C ∈ tab c, q_KOK l dC dI dA Hb ad c C D) : q_KOK l dC dI dA Hb ad 246 k_195 K := q_body (cuts := u_195) o_195 (L := 3) (fun q hq => by
    unfold u_195 at hq
    simp only [List.mem_cons, List.not_mem_nil, or_false] at hq
    rcases hq with rfl | rfl
    · exact o_195_0
    · exact o_195_1) ih
theorem ko_196 {K : Nat} (ih : ∀ D, D < K → ∀ c, ∀ C ∈ tab c, q_KOK l dC dI dA Hb ad c C D) : q_KOK l dC dI dA Hb ad 211 k_196 K := q_body (cuts := u_196) o_196 (L := 1) (fun q hq => by
    unfold u_196 at hq
    simp only [List.mem_cons, List.not_mem_nil, or_false] at hq
    rcases hq with rfl
    · exact o_196_0) ih
theorem ko_197 {K : Nat} (ih : ∀ D, D < K → ∀ c, ∀ C ∈ tab c, q_KOK l dC dI dA Hb ad c C D) : q_KOK l dC dI dA Hb ad 211 k_197 K := q_body (cuts := u_197) o_197 (L := 1) (fun q hq => by
    unfold u_197 at hq
    simp only [List.mem_cons, List.not_mem_nil, or_false] at hq
    rcases hq with rfl
    · exact o_197_0) ih
theorem ko_198 {K : Nat} (ih : ∀ D, D < K → ∀ c, ∀ C ∈ tab c, q_KOK l dC dI dA Hb ad c C D) : q_KOK l dC dI dA Hb ad 211 k_198 K := q_body (cuts := u_198) o_198 (L := 1) (fun q hq => by
    unfold u_198 at hq
    simp only [List.mem_cons, List.not_mem_nil, or_false] at hq
    rcases hq with rfl
    · exact o_198_0) ih
theorem ko_199 {K : Nat} (ih : ∀ D, D < K → ∀ c, ∀ C ∈ tab c, q_KOK l dC dI dA Hb ad c C D) : q_KOK l dC dI dA Hb ad 211 k_199 K := q_body (cuts := u_199) o_199 (L := 1) (fun q hq => by
    unfold u_199 at hq
    simp only [List.mem_cons, List.not_mem_nil, or_false] at hq
    rcases hq with rfl
    · exact o_199_0) ih
theorem ko_200 {K : Nat} (ih : ∀ D, D < K → ∀ c, ∀ C ∈ tab c, q_KOK l dC dI dA Hb ad c C D) : q_KOK l dC dI dA Hb ad 211 k_200 K := q_body (cuts := u_200) o_200 (L := 1) (fun q hq => by
    unfold u_200 at hq
    simp only [List.mem_cons, List.not_mem_nil, or_false] at hq
    rcases hq with rfl
    · exact o_200_0) ih
theorem ko_201 {K : Nat} (ih : ∀ D, D < K → ∀ c, ∀ C ∈ tab c, q_KOK l dC dI dA Hb ad c C D) : q_KOK l dC dI dA Hb ad 211 k_201 K := q_body (cuts := u_201) o_201 (L := 1) (fun q hq => by
    unfold u_201 at hq
    simp only [List.mem_cons, List.not_mem_nil, or_false] at hq
    rcases hq with rfl
    · exact o_201_0) ih
theorem ko_202 {K : Nat} (ih : ∀ D, D < K → ∀ c, ∀ C ∈ tab c, q_KOK l dC dI dA Hb ad c C D) : q_KOK l dC dI dA Hb ad 211 k_202 K := q_body (cuts := u_202) o_202 (L := 1) (fun q hq => by
    unfold u_202 at hq
    simp only [List.mem_cons, List.not_mem_nil, or_false] at hq
    rcases hq with rfl
    · exact o_202_0) ih
theorem ko_203 {K : Nat} (ih : ∀ D, D < K → ∀ c, ∀ C ∈ tab c, q_KOK l dC dI dA Hb ad c C D) : q_KOK l dC dI dA Hb ad 211 k_203 K := q_body (cuts := u_203) o_203 (L := 1) (fun q hq => by
    unfold u_203 at hq
    simp only [List.mem_cons, List.not_mem_nil, or_false] at hq
    rcases hq with rfl
    · exact o_203_0) ih
theorem ko_204 {K : Nat} (ih : ∀ D, D < K → ∀ c, ∀ C ∈ tab c, q_KOK l dC dI dA Hb ad c C D) : q_KOK l dC dI dA Hb ad 211 k_204 K := q_body (cuts := u_204) o_204 (L := 1) (fun q hq => by
    unfold u_204 at hq
    simp only [List.mem_cons, List.not_mem_nil, or_false] at hq
    rcases hq with rfl
    · exact o_204_0) ih
theorem ko_205 {K : Nat} (ih : ∀ D, D < K → ∀ c, ∀ C ∈ tab c, q_KOK l dC dI dA Hb ad c C D) : q_KOK l dC dI dA Hb ad 211 k_205 K := q_body (cuts := u_205) o_205 (L := 1) (fun q hq => by
    unfold u_205 at hq
    simp only [List.mem_cons, List.not_mem_nil, or_false] at hq
    rcases hq with rfl
    · exact o_205_0) ih
theorem ko_206 {K : Nat} (ih : ∀ D, D < K → ∀ c, ∀ C ∈ tab c, q_KOK l dC dI dA Hb ad c C D) : q_KOK l dC dI dA Hb ad 210 k_206 K := q_body (cuts := u_206) o_206 (L := 1) (fun q hq => by
    unfold u_206 at hq
    simp only [List.mem_cons, List.not_mem_nil, or_false] at hq
    rcases hq with rfl
    · exact o_206_0) ih
theorem ko_207 {K : Nat} (ih : ∀ D, D < K → ∀ c, ∀ C ∈ tab c, q_KOK l dC dI dA Hb ad c C D) : q_KOK l dC dI dA Hb ad 210 k_207 K := q_body (cuts := u_207) o_207 (L := 1) (fun q hq => by
    unfold u_207 at hq
    simp only [List.mem_cons, List.not_mem_nil, or_false] at hq
    rcases hq with rfl
    · exact o_207_0) ih
theorem ko_208 {K : Nat} (ih : ∀ D, D < K → ∀ c, ∀ C ∈ tab c, q_KOK l dC dI dA Hb ad c C D) : q_KOK l dC dI dA Hb ad 210 k_208 K := q_body (cuts := u_208) o_208 (L := 1) (fun q hq => by
    unfold u_208 at hq
    simp only [List.mem_cons, List.not_mem_nil, or_false] at hq
    rcases hq with rfl
    · exact o_208_0) ih
theorem ko_209 {K : Nat} (ih : ∀ D, D < K → ∀ c, ∀ C ∈ tab c, q_KOK l dC dI dA Hb ad c C D) : q_KOK l dC dI dA Hb ad 210 k_209 K := q_body (cuts := u_209) o_209 (L := 1) (fun q hq => by
    unfold u_209 at hq
    simp only [List.mem_cons, List.not_mem_nil, or_false] at hq
    rcases hq with rfl
    · exact o_209_0) ih
theorem ko_210 {K : Nat} (ih : ∀ D, D < K → ∀ c, ∀ C ∈ tab c, q_KOK l dC dI dA Hb ad c C D) : q_KOK l dC dI dA Hb ad 210 k_210 K := q_body (cuts := u_210) o_210 (L := 1) (fun q hq => by
    unfold u_210 at hq
    simp only [List.mem_cons, List.not_mem_nil, or_false] at hq
    rcases hq with rfl
    · exact o_210_0) ih
theorem ko_211 {K : Nat} (ih : ∀ D, D < K → ∀ c, ∀ C ∈ tab c, q_KOK l dC dI dA Hb ad c C D) : q_KOK l dC dI dA Hb ad 210 k_211 K := q_body (cuts := u_211) o_211 (L := 1) (fun q hq => by
    unfold u_211 at hq
    simp only [List.mem_cons, List.not_mem_nil, or_false] at hq
    rcases hq with rfl
    · exact o_211_0) ih
theorem ko_212 {K : Nat} (ih : ∀ D, D < K → ∀ c, ∀ C ∈ tab c, q_KOK l dC dI dA Hb ad c C D) : q_KOK l dC dI dA Hb ad 210 k_212 K := q_body (cuts := u_212) o_212 (L := 1) (fun q hq => by
    unfold u_212 at hq
    simp only [List.mem_cons, List.not_mem_nil, or_false] at hq
    rcases hq with rfl
    · exact o_212_0) ih
theorem ko_213 {K : Nat} (ih : ∀ D, D < K → ∀ c, ∀ C ∈ tab c, q_KOK l dC dI dA Hb ad c C D) : q_KOK l dC dI dA Hb ad 210 k_213 K := q_body (cuts := u_213) o_213 (L := 1) (fun q hq => by
    unfold u_213 at hq
    simp only [List.mem_cons, List.not_mem_nil, or_false] at hq
    rcases hq with rfl
    · exact o_213_0) ih
theorem ko_214 {K : Nat} (ih : ∀ D, D < K → ∀ c, ∀ C ∈ tab c, q_KOK l dC dI dA Hb ad c C D) : q_KOK l dC dI dA Hb ad 210 k_214 K := q_body (cuts := u_214) o_214 (L := 1) (fun q hq => by
    unfold u_214 at hq
    simp only [List.mem_cons, List.not_mem_nil, or_false] at hq
    rcases hq with rfl
    · exact o_214_0) ih
theorem ko_215 {K : Nat} (ih : ∀ D, D < K → ∀ c, ∀ C ∈ tab c, q_KOK l dC dI dA Hb ad c C D) : q_KOK l dC dI dA Hb ad 210 k_215 K := q_body (cuts := u_215) o_215 (L := 1) (fun q hq => by
    unfold u_215 at hq
    simp only [List.mem_cons, List.not_mem_nil, or_false] at hq
    rcases hq with rfl
    · exact o_215_0) ih
theorem ko_216 {K : Nat} (ih : ∀ D, D < K → ∀ c, ∀ C ∈ tab c, q_KOK l dC dI dA Hb ad c C D) : q_KOK l dC dI dA Hb ad 209 k_216 K := q_body (cuts := u_216) o_216 (L := 1) (fun q hq => by
    unfold u_216 at hq
    simp only [List.mem_cons, List.not_mem_nil, or_false] at hq
    rcases hq with rfl
    · exact o_216_0) ih
theorem ko_217 {K : Nat} (ih : ∀ D, D < K → ∀ c, ∀ C ∈ tab c, q_KOK l dC dI dA Hb ad c C D) : q_KOK l dC dI dA Hb ad 209 k_217 K := q_body (cuts := u_217) o_217 (L := 1) (fun q hq => by
    unfold u_217 at hq
    simp only [List.mem_cons, List.not_mem_nil, or_false] at hq
    rcases hq with rfl
    · exact o_217_0) ih
theorem ko_218 {K : Nat} (ih : ∀ D, D < K → ∀ c, ∀ C ∈ tab c, q_KOK l dC dI dA Hb ad c C D) : q_KOK l dC dI dA Hb ad 209 k_218 K := q_body (cuts := u_218) o_218 (L := 1) (fun q hq => by
    unfold u_218 at hq
    simp only [List.mem_cons, List.not_mem_nil, or_false] at hq
    rcases hq with rfl
    · exact o_218_0) ih
theorem ko_219 {K : Nat} (ih : ∀ D, D < K → ∀ c, ∀ C ∈ tab c, q_KOK l dC dI dA Hb ad c C D) : q_KOK l dC dI dA Hb ad 209 k_219 K := q_body (cuts := u_219) o_219 (L := 1) (fun q hq => by
    unfold u_219 at hq
    simp only [List.mem_cons, List.not_mem_nil, or_false] at hq
    rcases hq with rfl
    · exact o_219_0) ih
theorem ko_220 {K : Nat} (ih : ∀ D, D < K → ∀ c, ∀ C ∈ tab c, q_KOK l dC dI dA Hb ad c C D) : q_KOK l dC dI dA Hb ad 209 k_220 K := q_body (cuts := u_220) o_220 (L := 1) (fun q hq => by
    unfold u_220 at hq
    simp only [List.mem_cons, List.not_mem_nil, or_false] at hq
    rcases hq with rfl
    · exact o_220_0) ih
theorem ko_221 {K : Nat} (ih : ∀ D, D < K → ∀ c, ∀ C ∈ tab c, q_KOK l dC dI dA Hb ad c C D) : q_KOK l dC dI dA Hb ad 209 k_221 K := q_body (cuts := u_221) o_221 (L := 1) (fun q hq => by
    unfold u_221 at hq
    simp only [List.mem_cons, List.not_mem_nil, or_false] at hq
    rcases hq with rfl
    · exact o_221_0) ih
theorem ko_222 {K : Nat} (ih : ∀ D, D < K → ∀ c, ∀ C ∈ tab c, q_KOK l dC dI dA Hb ad c C D) : q_KOK l dC dI dA Hb ad 209 k_222 K := q_body (cuts := u_222) o_222 (L := 1) (fun q hq => by
    unfold u_222 at hq
    simp only [List.mem_cons, List.not_mem_nil, or_false] at hq
    rcases hq with rfl
    · exact o_222_0) ih
theorem ko_223 {K : Nat} (ih : ∀ D, D < K → ∀ c, ∀ C ∈ tab c, q_KOK l dC dI dA Hb ad c C D) : q_KOK l dC dI dA Hb ad 209 k_223 K := q_body (cuts := u_223) o_223 (L := 1) (fun q hq => by
    unfold u_223 at hq
    simp only [List.mem_cons, List.not_mem_nil, or_false] at hq
    rcases hq with rfl
    · exact o_223_0) ih
theorem ko_224 {K : Nat} (ih : ∀ D, D < K → ∀ c, ∀ C ∈ tab c, q_KOK l dC dI dA Hb ad c C D) : q_KOK l dC dI dA Hb ad 209 k_224 K := q_body (cuts := u_224) o_224 (L := 1) (fun q hq => by
    unfold u_224 at hq
    simp only [List.mem_cons, List.not_mem_nil, or_false] at hq
    rcases hq with rfl
    · exact o_224_0) ih
theorem ko_225 {K : Nat} (ih : ∀ D, D < K → ∀ c, ∀ C ∈ tab c, q_KOK l dC dI dA Hb ad c C D) : q_KOK l dC dI dA Hb ad 209 k_225 K := q_body (cuts := u_225) o_225 (L := 1) (fun q hq => by
    unfold u_225 at hq
    simp only [List.mem_cons, List.not_mem_nil, or_false] at hq
    rcases hq with rfl
    · exact o_225_0) ih
theorem ko_226 {K : Nat} (ih : ∀ D, D < K → ∀ c, ∀ C ∈ tab c, q_KOK l dC dI dA Hb ad c C D) : q_KOK l dC dI dA Hb ad 208 k_226 K := q_body (cuts := u_226) o_226 (L := 0) (fun q hq => nomatch hq) ih
theorem ko_227 {K : Nat} (ih : ∀ D, D < K → ∀ c, ∀ C ∈ tab c, q_KOK l dC dI dA Hb ad c C D) : q_KOK l dC dI dA Hb ad 208 k_227 K := q_body (cuts := u_227) o_227 (L := 0) (fun q hq => nomatch hq) ih
theorem ko_228 {K : Nat} (ih : ∀ D, D < K → ∀ c, ∀ C ∈ tab c, q_KOK l dC dI dA Hb ad c C D) : q_KOK l dC dI dA Hb ad 208 k_228 K := q_body (cuts := u_228) o_228 (L := 0) (fun q hq => nomatch hq) ih
theorem ko_229 {K : Nat} (ih : ∀ D, D < K → ∀ c, ∀ C ∈ tab c, q_KOK l dC dI dA Hb ad c C D) : q_KOK l dC dI dA Hb ad 208 k_229 K := q_body (cuts := u_229) o_229 (L := 0) (fun q hq => nomatch hq) ih
theorem ko_230 {K : Nat} (ih : ∀ D, D < K → ∀ c, ∀ C ∈ tab c, q_KOK l dC dI dA Hb ad c C D) : q_KOK l dC dI dA Hb ad 208 k_230 K := q_body (cuts := u_230) o_230 (L := 0) (fun q hq => nomatch hq) ih
theorem ko_231 {K : Nat} (ih : ∀ D, D < K → ∀ c, ∀ C ∈ tab c, q_KOK l dC dI dA Hb ad c C D) : q_KOK l dC dI dA Hb ad 208 k_231 K := q_body (cuts := u_231) o_231 (L := 0) (fun q hq => nomatch hq) ih
theorem ko_232 {K : Nat} (ih : ∀ D, D < K → ∀ c, ∀ C ∈ tab c, q_KOK l dC dI dA Hb ad c C D) : q_KOK l dC dI dA Hb ad 208 k_232 K := q_body (cuts := u_232) o_232 (L := 0) (fun q hq => nomatch hq) ih
theorem ko_233 {K : Nat} (ih : ∀ D, D < K → ∀ c, ∀ C ∈ tab c, q_KOK l dC dI dA Hb ad c C D) : q_KOK l dC dI dA Hb ad 208 k_233 K := q_body (cuts := u_233) o_233 (L := 0) (fun q hq => nomatch hq) ih
theorem ko_234 {K : Nat} (ih : ∀ D, D < K → ∀ c, ∀ C ∈ tab c, q_KOK l dC dI dA Hb ad c C D) : q_KOK l dC dI dA Hb ad 208 k_234 K := q_body (cuts := u_234) o_234 (L := 0) (fun q hq => nomatch hq) ih
theorem ko_235 {K : Nat} (ih : ∀ D, D < K → ∀ c, ∀ C ∈ tab c, q_KOK l dC dI dA Hb ad c C D) : q_KOK l dC dI dA Hb ad 208 k_235 K := q_body (cuts := u_235) o_235 (L := 0) (fun q hq => nomatch hq) ih
theorem ko_236 {K : Nat} (ih : ∀ D, D < K → ∀ c, ∀ C ∈ tab c, q_KOK l dC dI dA Hb ad c C D) : q_KOK l dC dI dA Hb ad 212 k_236 K := q_body (cuts := u_236) o_236 (L := 1) (fun q hq => by
    unfold u_236 at hq
    simp only [List.mem_cons, List.not_mem_nil, or_false] at hq
    rcases hq with rfl
    · exact o_236_0) ih
theorem ko_237 {K : Nat} (ih : ∀ D, D < K → ∀ c, ∀ C ∈ tab c, q_KOK l dC dI dA Hb ad c C D) : q_KOK l dC dI dA Hb ad 214 k_237 K := q_body (cuts := u_237) o_237 (L := 0) (fun q hq => nomatch hq) ih
theorem ko_238 {K : Nat} (ih : ∀ D, D < K → ∀ c, ∀ C ∈ tab c, q_KOK l dC dI dA Hb ad c C D) : q_KOK l dC dI dA Hb ad 235 k_238 K := q_body (cuts := u_238) o_238 (L := 1) (fun q hq => by
    unfold u_238 at hq
    simp only [List.mem_cons, List.not_mem_nil, or_false] at hq
    rcases hq with rfl
    · exact o_238_0) ih
theorem ko_239 {K : Nat} (ih : ∀ D, D < K → ∀ c, ∀ C ∈ tab c, q_KOK l dC dI dA Hb ad c C D) : q_KOK l dC dI dA Hb ad 235 k_239 K := q_body (cuts := u_239) o_239 (L := 1) (fun q hq => by
    unfold u_239 at hq
    simp only [List.mem_cons, List.not_mem_nil, or_false] at hq
    rcases hq with rfl
    · exact o_239_0) ih
theorem ko_240 {K : Nat} (ih : ∀ D, D < K → ∀ c, ∀ C ∈ tab c, q_KOK l dC dI dA Hb ad c C D) : q_KOK l dC dI dA Hb ad 237 k_240 K := q_body (cuts := u_240) o_240 (L := 1) (fun q hq => by
    unfold u_240 at hq
    simp only [List.mem_cons, List.not_mem_nil, or_false] at hq
    rcases hq with rfl
    · exact o_240_0) ih
theorem ko_242 {K : Nat} (ih : ∀ D, D < K → ∀ c, ∀ C ∈ tab c, q_KOK l dC dI dA Hb ad c C D) : q_KOK l dC dI dA Hb ad 240 k_242 K := q_body (cuts := u_242) o_242 (L := 1) (fun q hq => by
    unfold u_242 at hq
    simp only [List.mem_cons, List.not_mem_nil, or_false] at hq
    rcases hq with rfl
    · exact o_242_0) ih
theorem ko_244 {K : Nat} (ih : ∀ D, D < K → ∀ c, ∀ C ∈ tab c, q_KOK l dC dI dA Hb ad c C D) : q_KOK l dC dI dA Hb ad 257 k_244 K := q_body (cuts := u_244) o_244 (L := 1) (fun q hq => by
    unfold u_244 at hq
    simp only [List.mem_cons, List.not_mem_nil, or_false] at hq
    rcases hq with rfl
    · exact o_244_0) ih
theorem ko_245 {K : Nat} (ih : ∀ D, D < K → ∀ c, ∀ C ∈ tab c, q_KOK l dC dI dA Hb ad c C D) : q_KOK l dC dI dA Hb ad 268 k_245 K := q_body (cuts := u_245) o_245 (L := 1) (fun q hq => by
    unfold u_245 at hq
    simp only [List.mem_cons, List.not_mem_nil, or_false] at hq
    rcases hq with rfl
    · exact o_245_0) ih
theorem ko_246 {K : Nat} (ih : ∀ D, D < K → ∀ c, ∀ C ∈ tab c, q_KOK l dC dI dA Hb ad c C D) : q_KOK l dC dI dA Hb ad 267 k_246 K := q_body (cuts := u_246) o_246 (L := 2) (fun q hq => by
    unfold u_246 at hq
    simp only [List.mem_cons, List.not_mem_nil, or_false] at hq
    rcases hq with rfl | rfl
    · exact o_246_0
    · exact o_246_1) ih
theorem ko_248 {K : Nat} (ih : ∀ D, D < K → ∀ c, ∀ C ∈ tab c, q_KOK l dC dI dA Hb ad c C D) : q_KOK l dC dI dA Hb ad 282 k_248 K := q_body (cuts := u_248) o_248 (L := 2) (fun q hq => by
    unfold u_248 at hq
    simp only [List.mem_cons, List.not_mem_nil, or_false] at hq
    rcases hq with rfl | rfl | rfl
    · exact o_248_0
    · exact o_248_1
    · exact o_248_2) ih
theorem ko_249 {K : Nat} (ih : ∀ D, D < K → ∀ c, ∀ C ∈ tab c, q_KOK l dC dI dA Hb ad c C D) : q_KOK l dC dI dA Hb ad 282 k_249 K := q_body (cuts := u_249) o_249 (L := 2) (fun q hq => by
    unfold u_249 at hq
    simp only [List.mem_cons, List.not_mem_nil, or_false] at hq
    rcases hq with rfl | rfl | rfl | rfl | rfl | rfl
    · exact o_249_0
    · exact o_249_1
    · exact o_249_2
    · exact o_249_3
    · exact o_249_4
    · exact o_249_5) ih
theorem ko_250 {K : Nat} (ih : ∀ D, D < K → ∀ c, ∀ C ∈ tab c, q_KOK l dC dI dA Hb ad c C D) : q_KOK l dC dI dA Hb ad 282 k_250 K := q_body (cuts := u_250) o_250 (L := 2) (fun q hq => by
    unfold u_250 at hq
    simp only [List.mem_cons, List.not_mem_nil, or_false] at hq
    rcases hq with rfl | rfl | rfl | rfl | rfl | rfl | rfl | rfl | rfl | rfl
    · exact o_250_0
    · exact o_250_1
    · exact o_250_2
    · exact o_250_3
    · exact o_250_4
    · exact o_250_5
    · exact o_250_6
    · exact o_250_7
    · exact o_250_8
    · exact o_250_9) ih
theorem ko_251 {K : Nat} (ih : ∀ D, D < K → ∀ c, ∀ C ∈ tab c, q_KOK l dC dI dA Hb ad c C D) : q_KOK l dC dI dA Hb ad 282 k_251 K := q_body (cuts := u_251) o_251 (L := 2) (fun q hq => by
    unfold u_251 at hq
    simp only [List.mem_cons, List.not_mem_nil, or_false] at hq
    rcases hq with rfl | rfl | rfl | rfl | rfl | rfl | rfl | rfl | rfl | rfl | rfl | rfl | rfl | rfl | rfl
    · exact o_251_0
    · exact o_251_1
    · exact o_251_2
    · exact o_251_3
    · exact o_251_4
    · exact o_251_5
    · exact o_251_6
    · exact o_251_7
    · exact o_251_8
    · exact o_251_9
    · exact o_251_10
    · exact o_251_11
    · exact o_251_12
    · exact o_251_13
    · exact o_251_14) ih
theorem ko_252 {K : Nat} (ih : ∀ D, D < K → ∀ c, ∀ C ∈ tab c, q_KOK l dC dI dA Hb ad c C D) : q_KOK l dC dI dA Hb ad 282 k_252 K := q_body (cuts := u_252) o_252 (L := 2) (fun q hq => by
    unfold u_252 at hq
    simp only [List.mem_cons, List.not_mem_nil, or_false] at hq
    rcases hq with rfl | rfl | rfl | rfl | rfl | rfl | rfl | rfl | rfl | rfl | rfl | rfl | rfl | rfl | rfl | rfl | rfl | rfl | rfl | rfl | rfl
    · exact o_252_0
    · exact o_252_1
    · exact o_252_2
    · exact o_252_3
    · exact o_252_4
    · exact o_252_5
    · exact o_252_6
    · exact o_252_7
    · exact o_252_8
    · exact o_252_9
    · exact o_252_10
    · exact o_252_11
    · exact o_252_12
    · exact o_252_13
    · exact o_252_14
    · exact o_252_15
    · exact o_252_16
    · exact o_252_17
    · exact o_252_18
    · exact o_252_19
    · exact o_252_20) ih
theorem ko_253 {K : Nat} (ih : ∀ D, D < K → ∀ c, ∀ C ∈ tab c, q_KOK l dC dI dA Hb ad c C D) : q_KOK l dC dI dA Hb ad 282 k_253 K := q_body (cuts := u_253) o_253 (L := 2) (fun q hq => by
    unfold u_253 at hq
    simp only [List.mem_cons, List.not_mem_nil, or_false] at hq
    rcases hq with rfl | rfl | rfl | rfl | rfl | rfl | rfl | rfl | rfl | rfl | rfl | rfl | rfl | rfl | rfl | rfl | rfl | rfl | rfl | rfl | rfl | rfl | rfl | rfl | rfl | rfl | rfl | rfl
    · exact o_253_0
    · exact o_253_1
    · exact o_253_2
    · exact o_253_3
    · exact o_253_4
    · exact o_253_5
    · exact o_253_6
    · exact o_253_7
    · exact o_253_8
    · exact o_253_9
    · exact o_253_10
    · exact o_253_11
    · exact o_253_12
    · exact o_253_13
    · exact o_253_14
    · exact o_253_15
    · exact o_253_16
    · exact o_253_17
    · exact o_253_18
    · exact o_253_19
    · exact o_253_20
    · exact o_253_21
    · exact o_253_22
    · exact o_253_23
    · exact o_253_24
    · exact o_253_25
    · exact o_253_26
    · exact o_253_27) ih
theorem ko_254 {K : Nat} (ih : ∀ D, D < K → ∀ c, ∀ C ∈ tab c, q_KOK l dC dI dA Hb ad c C D) : q_KOK l dC dI dA Hb ad 282 k_254 K := q_body (cuts := u_254) o_254 (L := 2) (fun q hq => by
    unfold u_254 at hq
    simp only [List.mem_cons, List.not_mem_nil, or_false] at hq
    rcases hq with rfl | rfl | rfl | rfl | rfl | rfl | rfl | rfl | rfl | rfl | rfl | rfl | rfl | rfl | rfl | rfl | rfl | rfl | rfl | rfl | rfl | rfl | rfl | rfl | rfl | rfl | rfl | rfl | rfl | rfl | rfl | rfl | rfl | rfl | rfl | rfl
    · exact o_254_0
    · exact o_254_1
    · exact o_254_2
    · exact o_254_3
    · exact o_254_4
    · exact o_254_5
    · exact o_254_6
    · exact o_254_7
    · exact o_254_8
    · exact o_254_9
    · exact o_254_10
    · exact o_254_11
    · exact o_254_12
    · exact o_254_13
    · exact o_254_14
    · exact o_254_15
    · exact o_254_16
    · exact o_254_17
    · exact o_254_18
    · exact o_254_19
    · exact o_254_20
    · exact o_254_21
    · exact o_254_22
    · exact o_254_23
    · exact o_254_24
    · exact o_254_25
    · exact o_254_26
    · exact o_254_27
    · exact o_254_28
    · exact o_254_29
    · exact o_254_30
    · exact o_254_31
    · exact o_254_32
    · exact o_254_33
    · exact o_254_34
    · exact o_254_35) ih
theorem ko_255 {K : Nat} (ih : ∀ D, D < K → ∀ c, ∀ C ∈ tab c, q_KOK l dC dI dA Hb ad c C D) : q_KOK l dC dI dA Hb ad 263 k_255 K := q_body (cuts := u_255) o_255 (L := 1) (fun q hq => by
    unfold u_255 at hq
    simp only [List.mem_cons, List.not_mem_nil, or_false] at hq
    rcases hq with rfl
    · exact o_255_0) ih
theorem ko_256 {K : Nat} (ih : ∀ D, D < K → ∀ c, ∀ C ∈ tab c, q_KOK l dC dI dA Hb ad c C D) : q_KOK l dC dI dA Hb ad 263 k_256 K := q_body (cuts := u_256) o_256 (L := 2) (fun q hq => by
    unfold u_256 at hq
    simp only [List.mem_cons, List.not_mem_nil, or_false] at hq
    rcases hq with rfl | rfl
    · exact o_256_0
    · exact o_256_1) ih
theorem ko_257 {K : Nat} (ih : ∀ D, D < K → ∀ c, ∀ C ∈ tab c, q_KOK l dC dI dA Hb ad c C D) : q_KOK l dC dI dA Hb ad 263 k_257 K := q_body (cuts := u_257) o_257 (L := 2) (fun q hq => by
    unfold u_257 at hq
    simp only [List.mem_cons, List.not_mem_nil, or_false] at hq
    rcases hq with rfl | rfl
    · exact o_257_0
    · exact o_257_1) ih
theorem ko_258 {K : Nat} (ih : ∀ D, D < K → ∀ c, ∀ C ∈ tab c, q_KOK l dC dI dA Hb ad c C D) : q_KOK l dC dI dA Hb ad 263 k_258 K := q_body (cuts := u_258) o_258 (L := 2) (fun q hq => by
    unfold u_258 at hq
    simp only [List.mem_cons, List.not_mem_nil, or_false] at hq
    rcases hq with rfl | rfl
    · exact o_258_0
    · exact o_258_1) ih
theorem ko_259 {K : Nat} (ih : ∀ D, D < K → ∀ c, ∀ C ∈ tab c, q_KOK l dC dI dA Hb ad c C D) : q_KOK l dC dI dA Hb ad 263 k_259 K := q_body (cuts := u_259) o_259 (L := 2) (fun q hq => by
    unfold u_259 at hq
    simp only [List.mem_cons, List.not_mem_nil, or_false] at hq
    rcases hq with rfl | rfl
    · exact o_259_0
    · exact o_259_1) ih
theorem ko_260 {K : Nat} (ih : ∀ D, D < K → ∀ c, ∀ C ∈ tab c, q_KOK l dC dI dA Hb ad c C D) : q_KOK l dC dI dA Hb ad 263 k_260 K := q_body (cuts := u_260) o_260 (L := 2) (fun q hq => by
    unfold u_260 at hq
    simp only [List.mem_cons, List.not_mem_nil, or_false] at hq
    rcases hq with rfl | rfl
    · exact o_260_0
    · exact o_260_1) ih
theorem ko_261 {K : Nat} (ih : ∀ D, D < K → ∀ c, ∀ C ∈ tab c, q_KOK l dC dI dA Hb ad c C D) : q_KOK l dC dI dA Hb ad 263 k_261 K := q_body (cuts := u_261) o_261 (L := 2) (fun q hq => by
    unfold u_261 at hq
    simp only [List.mem_cons, List.not_mem_nil, or_false] at hq
    rcases hq with rfl | rfl
    · exact o_261_0
    · exact o_261_1) ih
theorem ko_262 {K : Nat} (ih : ∀ D, D < K → ∀ c, ∀ C ∈ tab c, q_KOK l dC dI dA Hb ad c C D) : q_KOK l dC dI dA Hb ad 265 k_262 K := q_body (cuts := u_262) o_262 (L := 1) (fun q hq => by
    unfold u_262 at hq
    simp only [List.mem_cons, List.not_mem_nil, or_false] at hq
    rcases hq with rfl
    · exact o_262_0) ih
theorem ko_263 {K : Nat} (ih : ∀ D, D < K → ∀ c, ∀ C ∈ tab c, q_KOK l dC dI dA Hb ad c C D) : q_KOK l dC dI dA Hb ad 280 k_263 K := q_body (cuts := u_263) o_263 (L := 1) (fun q hq => by
    unfold u_263 at hq
    simp only [List.mem_cons, List.not_mem_nil, or_false] at hq
    rcases hq with rfl
    · exact o_263_0) ih
theorem ko_264 {K : Nat} (ih : ∀ D, D < K → ∀ c, ∀ C ∈ tab c, q_KOK l dC dI dA Hb ad c C D) : q_KOK l dC dI dA Hb ad 280 k_264 K := q_body (cuts := u_264) o_264 (L := 2) (fun q hq => by
    unfold u_264 at hq
    simp only [List.mem_cons, List.not_mem_nil, or_false] at hq
    rcases hq with rfl | rfl
    · exact o_264_0
    · exact o_264_1) ih
theorem ko_265 {K : Nat} (ih : ∀ D, D < K → ∀ c, ∀ C ∈ tab c, q_KOK l dC dI dA Hb ad c C D) : q_KOK l dC dI dA Hb ad 280 k_265 K := q_body (cuts := u_265) o_265 (L := 2) (fun q hq => by
    unfold u_265 at hq
    simp only [List.mem_cons, List.not_mem_nil, or_false] at hq
    rcases hq with rfl | rfl
    · exact o_265_0
    · exact o_265_1) ih
theorem ko_266 {K : Nat} (ih : ∀ D, D < K → ∀ c, ∀ C ∈ tab c, q_KOK l dC dI dA Hb ad c C D) : q_KOK l dC dI dA Hb ad 280 k_266 K := q_body (cuts := u_266) o_266 (L := 2) (fun q hq => by
    unfold u_266 at hq
    simp only [List.mem_cons, List.not_mem_nil, or_false] at hq
    rcases hq with rfl | rfl
    · exact o_266_0
    · exact o_266_1) ih
theorem ko_267 {K : Nat} (ih : ∀ D, D < K → ∀ c, ∀ C ∈ tab c, q_KOK l dC dI dA Hb ad c C D) : q_KOK l dC dI dA Hb ad 280 k_267 K := q_body (cuts := u_267) o_267 (L := 2) (fun q hq => by
    unfold u_267 at hq
    simp only [List.mem_cons, List.not_mem_nil, or_false] at hq
    rcases hq with rfl | rfl
    · exact o_267_0
    · exact o_267_1) ih
theorem ko_268 {K : Nat} (ih : ∀ D, D < K → ∀ c, ∀ C ∈ tab c, q_KOK l dC dI dA Hb ad c C D) : q_KOK l dC dI dA Hb ad 280 k_268 K := q_body (cuts := u_268) o_268 (L := 2) (fun q hq => by
    unfold u_268 at hq
    simp only [List.mem_cons, List.not_mem_nil, or_false] at hq
    rcases hq with rfl | rfl
    · exact o_268_0
    · exact o_268_1) ih
theorem ko_269 {K : Nat} (ih : ∀ D, D < K → ∀ c, ∀ C ∈ tab c, q_KOK l dC dI dA Hb ad c C D) : q_KOK l dC dI dA Hb ad 280 k_269 K := q_body (cuts := u_269) o_269 (L := 2) (fun q hq => by
    unfold u_269 at hq
    simp only [List.mem_cons, List.not_mem_nil, or_false] at hq
    rcases hq with rfl | rfl
    · exact o_269_0
    · exact o_269_1) ih
theorem ko_270 {K : Nat} (ih : ∀ D, D < K → ∀ c, ∀ C ∈ tab c, q_KOK l dC dI dA Hb ad c C D) : q_KOK l dC dI dA Hb ad 280 k_270 K := q_body (cuts := u_270) o_270 (L := 2) (fun q hq => by
    unfold u_270 at hq
    simp only [List.mem_cons, List.not_mem_nil, or_false] at hq
    rcases hq with rfl | rfl
    · exact o_270_0
    · exact o_270_1) ih
theorem ko_271 {K : Nat} (ih : ∀ D, D < K → ∀ c, ∀ C ∈ tab c, q_KOK l dC dI dA Hb ad c C D) : q_KOK l dC dI dA Hb ad 284 k_271 K := q_body (cuts := u_271) o_271 (L := 1) (fun q hq => by
    unfold u_271 at hq
    simp only [List.mem_cons, List.not_mem_nil, or_false] at hq
    rcases hq with rfl
    · exact o_271_0) ih
theorem ko_272 {K : Nat} (ih : ∀ D, D < K → ∀ c, ∀ C ∈ tab c, q_KOK l dC dI dA Hb ad c C D) : q_KOK l dC dI dA Hb ad 284 k_272 K := q_body (cuts := u_272) o_272 (L := 2) (fun q hq => by
    unfold u_272 at hq
    simp only [List.mem_cons, List.not_mem_nil, or_false] at hq
    rcases hq with rfl | rfl
    · exact o_272_0
    · exact o_272_1) ih
theorem ko_273 {K : Nat} (ih : ∀ D, D < K → ∀ c, ∀ C ∈ tab c, q_KOK l dC dI dA Hb ad c C D) : q_KOK l dC dI dA Hb ad 284 k_273 K := q_body (cuts := u_273) o_273 (L := 2) (fun q hq => by
    unfold u_273 at hq
    simp only [List.mem_cons, List.not_mem_nil, or_false] at hq
    rcases hq with rfl | rfl
    · exact o_273_0
    · exact o_273_1) ih
theorem ko_274 {K : Nat} (ih : ∀ D, D < K → ∀ c, ∀ C ∈ tab c, q_KOK l dC dI dA Hb ad c C D) : q_KOK l dC dI dA Hb ad 284 k_274 K := q_body (cuts := u_274) o_274 (L := 2) (fun q hq => by
    unfold u_274 at hq
    simp only [List.mem_cons, List.not_mem_nil, or_false] at hq
    rcases hq with rfl | rfl
    · exact o_274_0
    · exact o_274_1) ih
theorem ko_275 {K : Nat} (ih : ∀ D, D < K → ∀ c, ∀ C ∈ tab c, q_KOK l dC dI dA Hb ad c C D) : q_KOK l dC dI dA Hb ad 284 k_275 K := q_body (cuts := u_275) o_275 (L := 2) (fun q hq => by
    unfold u_275 at hq
    simp only [List.mem_cons, List.not_mem_nil, or_false] at hq
    rcases hq with rfl | rfl
    · exact o_275_0
    · exact o_275_1) ih
theorem ko_276 {K : Nat} (ih : ∀ D, D < K → ∀ c, ∀ C ∈ tab c, q_KOK l dC dI dA Hb ad c C D) : q_KOK l dC dI dA Hb ad 284 k_276 K := q_body (cuts := u_276) o_276 (L := 2) (fun q hq => by
    unfold u_276 at hq
    simp only [List.mem_cons, List.not_mem_nil, or_false] at hq
    rcases hq with rfl | rfl
    · exact o_276_0
    · exact o_276_1) ih
theorem ko_277 {K : Nat} (ih : ∀ D, D < K → ∀ c, ∀ C ∈ tab c, q_KOK l dC dI dA Hb ad c C D) : q_KOK l dC dI dA Hb ad 284 k_277 K := q_body (cuts := u_277) o_277 (L := 2) (fun q hq => by
    unfold u_277 at hq
    simp only [List.mem_cons, List.not_mem_nil, or_false] at hq
    rcases hq with rfl | rfl
    · exact o_277_0
    · exact o_277_1) ih
theorem ko_278 {K : Nat} (ih : ∀ D, D < K → ∀ c, ∀ C ∈ tab c, q_KOK l dC dI dA Hb ad c C D) : q_KOK l dC dI dA Hb ad 284 k_278 K := q_body (cuts := u_278) o_278 (L := 2) (fun q hq => by
    unfold u_278 at hq
    simp only [List.mem_cons, List.not_mem_nil, or_false] at hq
    rcases hq with rfl | rfl
    · exact o_278_0
    · exact o_278_1) ih
theorem ko_279 {K : Nat} (ih : ∀ D, D < K → ∀ c, ∀ C ∈ tab c, q_KOK l dC dI dA Hb ad c C D) : q_KOK l dC dI dA Hb ad 196 k_279 K := q_body (cuts := u_279) o_279 (L := 0) (fun q hq => nomatch hq) ih
theorem ko_280 {K : Nat} (ih : ∀ D, D < K → ∀ c, ∀ C ∈ tab c, q_KOK l dC dI dA Hb ad c C D) : q_KOK l dC dI dA Hb ad 218 k_280 K := q_body (cuts := u_280) o_280 (L := 0) (fun q hq => nomatch hq) ih
theorem ko_281 {K : Nat} (ih : ∀ D, D < K → ∀ c, ∀ C ∈ tab c, q_KOK l dC dI dA Hb ad c C D) : q_KOK l dC dI dA Hb ad 219 k_281 K := q_body (cuts := u_281) o_281 (L := 0) (fun q hq => nomatch hq) ih
theorem ko_282 {K : Nat} (ih : ∀ D, D < K → ∀ c, ∀ C ∈ tab c, q_KOK l dC dI dA Hb ad c C D) : q_KOK l dC dI dA Hb ad 220 k_282 K := q_body (cuts := u_282) o_282 (L := 0) (fun q hq => nomatch hq) ih
theorem ko_283 {K : Nat} (ih : ∀ D, D < K → ∀ c, ∀ C ∈ tab c, q_KOK l dC dI dA Hb ad c C D) : q_KOK l dC dI dA Hb ad 221 k_283 K := q_body (cuts := u_283) o_283 (L := 0) (fun q hq => nomatch hq) ih
theorem ko_284 {K : Nat} (ih : ∀ D, D < K → ∀ c, ∀ C ∈ tab c, q_KOK l dC dI dA Hb ad c C D) : q_KOK l dC dI dA Hb ad 222 k_284 K := q_body (cuts := u_284) o_284 (L := 0) (fun q hq => nomatch hq) ih
theorem ko_285 {K : Nat} (ih : ∀ D, D < K → ∀ c, ∀ C ∈ tab c, q_KOK l dC dI dA Hb ad c C D) : q_KOK l dC dI dA Hb ad 231 k_285 K := q_body (cuts := u_285) o_285 (L := 0) (fun q hq => nomatch hq) ih
theorem ko_286 {K : Nat} (ih : ∀ D, D < K → ∀ c, ∀ C ∈ tab c, q_KOK l dC dI dA Hb ad c C D) : q_KOK l dC dI dA Hb ad 232 k_286 K := q_body (cuts := u_286) o_286 (L := 0) (fun q hq => nomatch hq) ih
theorem ko_287 {K : Nat} (ih : ∀ D, D < K → ∀ c, ∀ C ∈ tab c, q_KOK l dC dI dA Hb ad c C D) : q_KOK l dC dI dA Hb ad 234 k_287 K := q_body (cuts := u_287) o_287 (L := 0) (fun q hq => nomatch hq) ih
theorem ko_288 {K : Nat} (ih : ∀ D, D < K → ∀ c, ∀ C ∈ tab c, q_KOK l dC dI dA Hb ad c C D) : q_KOK l dC dI dA Hb ad 236 k_288 K := q_body (cuts := u_288) o_288 (L := 0) (fun q hq => nomatch hq) ih
theorem ko_289 {K : Nat} (ih : ∀ D, D < K → ∀ c, ∀ C ∈ tab c, q_KOK l dC dI dA Hb ad c C D) : q_KOK l dC dI dA Hb ad 242 k_289 K := q_body (cuts := u_289) o_289 (L := 0) (fun q hq => nomatch hq) ih
theorem ko_290 {K : Nat} (ih : ∀ D, D < K → ∀ c, ∀ C ∈ tab c, q_KOK l dC dI dA Hb ad c C D) : q_KOK l dC dI dA Hb ad 244 k_290 K := q_body (cuts := u_290) o_290 (L := 0) (fun q hq => nomatch hq) ih
theorem ko_291 {K : Nat} (ih : ∀ D, D < K → ∀ c, ∀ C ∈ tab c, q_KOK l dC dI dA Hb ad c C D) : q_KOK l dC dI dA Hb ad 247 k_291 K := q_body (cuts := u_291) o_291 (L := 0) (fun q hq => nomatch hq) ih
theorem ko_292 {K : Nat} (ih : ∀ D, D < K → ∀ c, ∀ C ∈ tab c, q_KOK l dC dI dA Hb ad c C D) : q_KOK l dC dI dA Hb ad 248 k_292 K := by
  refine q_split (j := 32) (lo := vP 0) (hi := vP 20) rfl fun z h1 h2 => ?_
  have hz : z = 0 ∨ z = 1 ∨ z = 2 ∨ z = 3 ∨ z = 4 ∨ z = 5 ∨ z = 6 ∨ z = 7 ∨ z = 8 ∨ z = 9 ∨ z = 10 ∨ z = 11 ∨ z = 12 ∨ z = 13 ∨ z = 14 ∨ z = 15 ∨ z = 16 ∨ z = 17 ∨ z = 18 ∨ z = 19 ∨ z = 20 := by
    have h1 : (0 : Int) ≤ z := h1
    have h2 : z ≤ (20 : Int) := h2
    omega
  rcases hz with rfl | rfl | rfl | rfl | rfl | rfl | rfl | rfl | rfl | rfl | rfl | rfl | rfl | rfl | rfl | rfl | rfl | rfl | rfl | rfl | rfl
  · exact q_body (cuts := w_292_0) o_292_0 (L := 0) (fun q hq => nomatch hq) ih
  · exact q_body (cuts := w_292_1) o_292_1 (L := 2) (fun q hq => by
    unfold w_292_1 at hq
    simp only [List.mem_cons, List.not_mem_nil, or_false] at hq
    rcases hq with rfl | rfl | rfl | rfl | rfl | rfl | rfl | rfl | rfl | rfl | rfl | rfl | rfl | rfl | rfl | rfl | rfl | rfl | rfl | rfl
    · exact o_292_1_0
    · exact o_292_1_1
    · exact o_292_1_2
    · exact o_292_1_3
    · exact o_292_1_4
    · exact o_292_1_5
    · exact o_292_1_6
    · exact o_292_1_7
    · exact o_292_1_8
    · exact o_292_1_9
    · exact o_292_1_10
    · exact o_292_1_11
    · exact o_292_1_12
    · exact o_292_1_13
    · exact o_292_1_14
    · exact o_292_1_15
    · exact o_292_1_16
    · exact o_292_1_17
    · exact o_292_1_18
    · exact o_292_1_19) ih
  · exact q_body (cuts := w_292_2) o_292_2 (L := 2) (fun q hq => by
    unfold w_292_2 at hq
    simp only [List.mem_cons, List.not_mem_nil, or_false] at hq
    rcases hq with rfl | rfl | rfl | rfl | rfl | rfl | rfl | rfl | rfl | rfl | rfl | rfl | rfl | rfl | rfl | rfl | rfl | rfl | rfl
    · exact o_292_2_0
    · exact o_292_2_1
    · exact o_292_2_2
    · exact o_292_2_3
    · exact o_292_2_4
    · exact o_292_2_5
    · exact o_292_2_6
    · exact o_292_2_7
    · exact o_292_2_8
    · exact o_292_2_9
    · exact o_292_2_10
    · exact o_292_2_11
    · exact o_292_2_12
    · exact o_292_2_13
    · exact o_292_2_14
    · exact o_292_2_15
    · exact o_292_2_16
    · exact o_292_2_17
    · exact o_292_2_18) ih
  · exact q_body (cuts := w_292_3) o_292_3 (L := 2) (fun q hq => by
    unfold w_292_3 at hq
    simp only [List.mem_cons, List.not_mem_nil, or_false] at hq
    rcases hq with rfl | rfl | rfl | rfl | rfl | rfl | rfl | rfl | rfl | rfl | rfl | rfl | rfl | rfl | rfl | rfl | rfl | rfl
    · exact o_292_3_0
    · exact o_292_3_1
    · exact o_292_3_2
    · exact o_292_3_3
    · exact o_292_3_4
    · exact o_292_3_5
    · exact o_292_3_6
    · exact o_292_3_7
    · exact o_292_3_8
    · exact o_292_3_9
    · exact o_292_3_10
    · exact o_292_3_11
    · exact o_292_3_12
    · exact o_292_3_13
    · exact o_292_3_14
    · exact o_292_3_15
    · exact o_292_3_16
    · exact o_292_3_17) ih
  · exact q_body (cuts := w_292_4) o_292_4 (L := 2) (fun q hq => by
    unfold w_292_4 at hq
    simp only [List.mem_cons, List.not_mem_nil, or_false] at hq
    rcases hq with rfl | rfl | rfl | rfl | rfl | rfl | rfl | rfl | rfl | rfl | rfl | rfl | rfl | rfl | rfl | rfl | rfl
    · exact o_292_4_0
    · exact o_292_4_1
    · exact o_292_4_2
    · exact o_292_4_3
    · exact o_292_4_4
    · exact o_292_4_5
    · exact o_292_4_6
    · exact o_292_4_7
    · exact o_292_4_8
    · exact o_292_4_9
    · exact o_292_4_10
    · exact o_292_4_11
    · exact o_292_4_12
    · exact o_292_4_13
    · exact o_292_4_14
    · exact o_292_4_15
    · exact o_292_4_16) ih
  · exact q_body (cuts := w_292_5) o_292_5 (L := 2) (fun q hq => by
    unfold w_292_5 at hq
    simp only [List.mem_cons, List.not_mem_nil, or_false] at hq
    rcases hq with rfl | rfl | rfl | rfl | rfl | rfl | rfl | rfl | rfl | rfl | rfl | rfl | rfl | rfl | rfl | rfl
    · exact o_292_5_0
    · exact o_292_5_1
    · exact o_292_5_2
    · exact o_292_5_3
    · exact o_292_5_4
    · exact o_292_5_5
    · exact o_292_5_6
    · exact o_292_5_7
    · exact o_292_5_8
    · exact o_292_5_9
    · exact o_292_5_10
    · exact o_292_5_11
    · exact o_292_5_12
    · exact o_292_5_13
    · exact o_292_5_14
    · exact o_292_5_15) ih
  · exact q_body (cuts := w_292_6) o_292_6 (L := 2) (fun q hq => by
    unfold w_292_6 at hq
    simp only [List.mem_cons, List.not_mem_nil, or_false] at hq
    rcases hq with rfl | rfl | rfl | rfl | rfl | rfl | rfl | rfl | rfl | rfl | rfl | rfl | rfl | rfl | rfl
    · exact o_292_6_0
    · exact o_292_6_1
    · exact o_292_6_2
    · exact o_292_6_3
    · exact o_292_6_4
    · exact o_292_6_5
    · exact o_292_6_6
    · exact o_292_6_7
    · exact o_292_6_8
    · exact o_292_6_9
    · exact o_292_6_10
    · exact o_292_6_11
    · exact o_292_6_12
    · exact o_292_6_13
    · exact o_292_6_14) ih
  · exact q_body (cuts := w_292_7) o_292_7 (L := 2) (fun q hq => by
    unfold w_292_7 at hq
    simp only [List.mem_cons, List.not_mem_nil, or_false] at hq
    rcases hq with rfl | rfl | rfl | rfl | rfl | rfl | rfl | rfl | rfl | rfl | rfl | rfl | rfl | rfl
    · exact o_292_7_0
    · exact o_292_7_1
    · exact o_292_7_2
    · exact o_292_7_3
    · exact o_292_7_4
    · exact o_292_7_5
    · exact o_292_7_6
    · exact o_292_7_7
    · exact o_292_7_8
    · exact o_292_7_9
    · exact o_292_7_10
    · exact o_292_7_11
    · exact o_292_7_12
    · exact o_292_7_13) ih
  · exact q_body (cuts := w_292_8) o_292_8 (L := 2) (fun q hq => by
    unfold w_292_8 at hq
    simp only [List.mem_cons, List.not_mem_nil, or_false] at hq
    rcases hq with rfl | rfl | rfl | rfl | rfl | rfl | rfl | rfl | rfl | rfl | rfl | rfl | rfl
    · exact o_292_8_0
    · exact o_292_8_1
    · exact o_292_8_2
    · exact o_292_8_3
    · exact o_292_8_4
    · exact o_292_8_5
    · exact o_292_8_6
    · exact o_292_8_7
    · exact o_292_8_8
    · exact o_292_8_9
    · exact o_292_8_10
    · exact o_292_8_11
    · exact o_292_8_12) ih
  · exact q_body (cuts := w_292_9) o_292_9 (L := 2) (fun q hq => by
    unfold w_292_9 at hq
    simp only [List.mem_cons, List.not_mem_nil, or_false] at hq
    rcases hq with rfl | rfl | rfl | rfl | rfl | rfl | rfl | rfl | rfl | rfl | rfl | rfl
    · exact o_292_9_0
    · exact o_292_9_1
    · exact o_292_9_2
    · exact o_292_9_3
    · exact o_292_9_4
    · exact o_292_9_5
    · exact o_292_9_6
    · exact o_292_9_7
    · exact o_292_9_8
    · exact o_292_9_9
    · exact o_292_9_10
    · exact o_292_9_11) ih
  · exact q_body (cuts := w_292_10) o_292_10 (L := 2) (fun q hq => by
    unfold w_292_10 at hq
    simp only [List.mem_cons, List.not_mem_nil, or_false] at hq
    rcases hq with rfl | rfl | rfl | rfl | rfl | rfl | rfl | rfl | rfl | rfl | rfl
    · exact o_292_10_0
    · exact o_292_10_1
    · exact o_292_10_2
    · exact o_292_10_3
    · exact o_292_10_4
    · exact o_292_10_5
    · exact o_292_10_6
    · exact o_292_10_7
    · exact o_292_10_8
    · exact o_292_10_9
    · exact o_292_10_10) ih
  · exact q_body (cuts := w_292_11) o_292_11 (L := 2) (fun q hq => by
    unfold w_292_11 at hq
    simp only [List.mem_cons, List.not_mem_nil, or_false] at hq
    rcases hq with rfl | rfl | rfl | rfl | rfl | rfl | rfl | rfl | rfl | rfl
    · exact o_292_11_0
    · exact o_292_11_1
    · exact o_292_11_2
    · exact o_292_11_3
    · exact o_292_11_4
    · exact o_292_11_5
    · exact o_292_11_6
    · exact o_292_11_7
    · exact o_292_11_8
    · exact o_292_11_9) ih
  · exact q_body (cuts := w_292_12) o_292_12 (L := 2) (fun q hq => by
    unfold w_292_12 at hq
    simp only [List.mem_cons, List.not_mem_nil, or_false] at hq
    rcases hq with rfl | rfl | rfl | rfl | rfl | rfl | rfl | rfl | rfl
    · exact o_292_12_0
    · exact o_292_12_1
    · exact o_292_12_2
    · exact o_292_12_3
    · exact o_292_12_4
    · exact o_292_12_5
    · exact o_292_12_6
    · exact o_292_12_7
    · exact o_292_12_8) ih
  · exact q_body (cuts := w_292_13) o_292_13 (L := 2) (fun q hq => by
    unfold w_292_13 at hq
    simp only [List.mem_cons, List.not_mem_nil, or_false] at hq
    rcases hq with rfl | rfl | rfl | rfl | rfl | rfl | rfl | rfl
    · exact o_292_13_0
    · exact o_292_13_1
    · exact o_292_13_2
    · exact o_292_13_3
    · exact o_292_13_4
    · exact o_292_13_5
    · exact o_292_13_6
    · exact o_292_13_7) ih
  · exact q_body (cuts := w_292_14) o_292_14 (L := 2) (fun q hq => by
    unfold w_292_14 at hq
    simp only [List.mem_cons, List.not_mem_nil, or_false] at hq
    rcases hq with rfl | rfl | rfl | rfl | rfl | rfl | rfl
    · exact o_292_14_0
    · exact o_292_14_1
    · exact o_292_14_2
    · exact o_292_14_3
    · exact o_292_14_4
    · exact o_292_14_5
    · exact o_292_14_6) ih
  · exact q_body (cuts := w_292_15) o_292_15 (L := 2) (fun q hq => by
    unfold w_292_15 at hq
    simp only [List.mem_cons, List.not_mem_nil, or_false] at hq
    rcases hq with rfl | rfl | rfl | rfl | rfl | rfl
    · exact o_292_15_0
    · exact o_292_15_1
    · exact o_292_15_2
    · exact o_292_15_3
    · exact o_292_15_4
    · exact o_292_15_5) ih
  · exact q_body (cuts := w_292_16) o_292_16 (L := 2) (fun q hq => by
    unfold w_292_16 at hq
    simp only [List.mem_cons, List.not_mem_nil, or_false] at hq
    rcases hq with rfl | rfl | rfl | rfl | rfl
    · exact o_292_16_0
    · exact o_292_16_1
    · exact o_292_16_2
    · exact o_292_16_3
    · exact o_292_16_4) ih
  · exact q_body (cuts := w_292_17) o_292_17 (L := 2) (fun q hq => by
    unfold w_292_17 at hq
    simp only [List.mem_cons, List.not_mem_nil, or_false] at hq
    rcases hq with rfl | rfl | rfl | rfl
    · exact o_292_17_0
    · exact o_292_17_1
    · exact o_292_17_2
    · exact o_292_17_3) ih
  · exact q_body (cuts := w_292_18) o_292_18 (L := 2) (fun q hq => by
    unfold w_292_18 at hq
    simp only [List.mem_cons, List.not_mem_nil, or_false] at hq
    rcases hq with rfl | rfl | rfl
    · exact o_292_18_0
    · exact o_292_18_1
    · exact o_292_18_2) ih
  · exact q_body (cuts := w_292_19) o_292_19 (L := 2) (fun q hq => by
    unfold w_292_19 at hq
    simp only [List.mem_cons, List.not_mem_nil, or_false] at hq
    rcases hq with rfl | rfl
    · exact o_292_19_0
    · exact o_292_19_1) ih
  · exact q_body (cuts := w_292_20) o_292_20 (L := 1) (fun q hq => by
    unfold w_292_20 at hq
    simp only [List.mem_cons, List.not_mem_nil, or_false] at hq
    rcases hq with rfl
    · exact o_292_20_0) ih
theorem ko_293 {K : Nat} (ih : ∀ D, D < K → ∀ c, ∀ C ∈ tab c, q_KOK l dC dI dA Hb ad c C D) : q_KOK l dC dI dA Hb ad 249 k_293 K := q_body (cuts := u_293) o_293 (L := 1) (fun q hq => by
    unfold u_293 at hq
    simp only [List.mem_cons, List.not_mem_nil, or_false] at hq
    rcases hq with rfl
    · exact o_293_0) ih
theorem ko_294 {K : Nat} (ih : ∀ D, D < K → ∀ c, ∀ C ∈ tab c, q_KOK l dC dI dA Hb ad c C D) : q_KOK l dC dI dA Hb ad 250 k_294 K := q_body (cuts := u_294) o_294 (L := 1) (fun q hq => by
    unfold u_294 at hq
    simp only [List.mem_cons, List.not_mem_nil, or_false] at hq
    rcases hq with rfl
    · exact o_294_0) ih
theorem ko_295 {K : Nat} (ih : ∀ D, D < K → ∀ c, ∀ C ∈ tab c, q_KOK l dC dI dA Hb ad c C D) : q_KOK l dC dI dA Hb ad 251 k_295 K := q_body (cuts := u_295) o_295 (L := 2) (fun q hq => by
    unfold u_295 at hq
    simp only [List.mem_cons, List.not_mem_nil, or_false] at hq
    rcases hq with rfl | rfl | rfl
    · exact o_295_0
    · exact o_295_1
    · exact o_295_2) ih
theorem ko_296 {K : Nat} (ih : ∀ D, D < K → ∀ c, ∀ C ∈ tab c, q_KOK l dC dI dA Hb ad c C D) : q_KOK l dC dI dA Hb ad 253 k_296 K := q_body (cuts := u_296) o_296 (L := 1) (fun q hq => by
    unfold u_296 at hq
    simp only [List.mem_cons, List.not_mem_nil, or_false] at hq
    rcases hq with rfl
    · exact o_296_0) ih
theorem ko_297 {K : Nat} (ih : ∀ D, D < K → ∀ c, ∀ C ∈ tab c, q_KOK l dC dI dA Hb ad c C D) : q_KOK l dC dI dA Hb ad 254 k_297 K := q_body (cuts := u_297) o_297 (L := 3) (fun q hq => by
    unfold u_297 at hq
    simp only [List.mem_cons, List.not_mem_nil, or_false] at hq
    rcases hq with rfl | rfl
    · exact o_297_0
    · exact o_297_1) ih
theorem ko_298 {K : Nat} (ih : ∀ D, D < K → ∀ c, ∀ C ∈ tab c, q_KOK l dC dI dA Hb ad c C D) : q_KOK l dC dI dA Hb ad 255 k_298 K := q_body (cuts := u_298) o_298 (L := 1) (fun q hq => by
    unfold u_298 at hq
    simp only [List.mem_cons, List.not_mem_nil, or_false] at hq
    rcases hq with rfl
    · exact o_298_0) ih
theorem ko_299 {K : Nat} (ih : ∀ D, D < K → ∀ c, ∀ C ∈ tab c, q_KOK l dC dI dA Hb ad c C D) : q_KOK l dC dI dA Hb ad 258 k_299 K := q_body (cuts := u_299) o_299 (L := 4) (fun q hq => by
    unfold u_299 at hq
    simp only [List.mem_cons, List.not_mem_nil, or_false] at hq
    rcases hq with rfl | rfl | rfl | rfl
    · exact o_299_0
    · exact o_299_1
    · exact o_299_2
    · exact o_299_3) ih
theorem ko_300 {K : Nat} (ih : ∀ D, D < K → ∀ c, ∀ C ∈ tab c, q_KOK l dC dI dA Hb ad c C D) : q_KOK l dC dI dA Hb ad 259 k_300 K := q_body (cuts := u_300) o_300 (L := 1) (fun q hq => by
    unfold u_300 at hq
    simp only [List.mem_cons, List.not_mem_nil, or_false] at hq
    rcases hq with rfl
    · exact o_300_0) ih
theorem ko_301 {K : Nat} (ih : ∀ D, D < K → ∀ c, ∀ C ∈ tab c, q_KOK l dC dI dA Hb ad c C D) : q_KOK l dC dI dA Hb ad 260 k_301 K := q_body (cuts := u_301) o_301 (L := 2) (fun q hq => by
    unfold u_301 at hq
    simp only [List.mem_cons, List.not_mem_nil, or_false] at hq
    rcases hq with rfl | rfl
    · exact o_301_0
    · exact o_301_1) ih
theorem ko_302 {K : Nat} (ih : ∀ D, D < K → ∀ c, ∀ C ∈ tab c, q_KOK l dC dI dA Hb ad c C D) : q_KOK l dC dI dA Hb ad 262 k_302 K := q_body (cuts := u_302) o_302 (L := 1) (fun q hq => by
    unfold u_302 at hq
    simp only [List.mem_cons, List.not_mem_nil, or_false] at hq
    rcases hq with rfl
    · exact o_302_0) ih
theorem ko_303 {K : Nat} (ih : ∀ D, D < K → ∀ c, ∀ C ∈ tab c, q_KOK l dC dI dA Hb ad c C D) : q_KOK l dC dI dA Hb ad 264 k_303 K := q_body (cuts := u_303) o_303 (L := 4) (fun q hq => by
    unfold u_303 at hq
    simp only [List.mem_cons, List.not_mem_nil, or_false] at hq
    rcases hq with rfl | rfl | rfl
    · exact o_303_0
    · exact o_303_1
    · exact o_303_2) ih
theorem ko_304 {K : Nat} (ih : ∀ D, D < K → ∀ c, ∀ C ∈ tab c, q_KOK l dC dI dA Hb ad c C D) : q_KOK l dC dI dA Hb ad 266 k_304 K := q_body (cuts := u_304) o_304 (L := 1) (fun q hq => by
    unfold u_304 at hq
    simp only [List.mem_cons, List.not_mem_nil, or_false] at hq
    rcases hq with rfl
    · exact o_304_0) ih
theorem ko_305 {K : Nat} (ih : ∀ D, D < K → ∀ c, ∀ C ∈ tab c, q_KOK l dC dI dA Hb ad c C D) : q_KOK l dC dI dA Hb ad 271 k_305 K := q_body (cuts := u_305) o_305 (L := 1) (fun q hq => by
    unfold u_305 at hq
    simp only [List.mem_cons, List.not_mem_nil, or_false] at hq
    rcases hq with rfl
    · exact o_305_0) ih
theorem ko_307 {K : Nat} (ih : ∀ D, D < K → ∀ c, ∀ C ∈ tab c, q_KOK l dC dI dA Hb ad c C D) : q_KOK l dC dI dA Hb ad 273 k_307 K := q_body (cuts := u_307) o_307 (L := 0) (fun q hq => nomatch hq) ih
theorem ko_308 {K : Nat} (ih : ∀ D, D < K → ∀ c, ∀ C ∈ tab c, q_KOK l dC dI dA Hb ad c C D) : q_KOK l dC dI dA Hb ad 274 k_308 K := q_body (cuts := u_308) o_308 (L := 0) (fun q hq => nomatch hq) ih
theorem ko_309 {K : Nat} (ih : ∀ D, D < K → ∀ c, ∀ C ∈ tab c, q_KOK l dC dI dA Hb ad c C D) : q_KOK l dC dI dA Hb ad 275 k_309 K := q_body (cuts := u_309) o_309 (L := 1) (fun q hq => by
    unfold u_309 at hq
    simp only [List.mem_cons, List.not_mem_nil, or_false] at hq
    rcases hq with rfl
    · exact o_309_0) ih
theorem ko_310 {K : Nat} (ih : ∀ D, D < K → ∀ c, ∀ C ∈ tab c, q_KOK l dC dI dA Hb ad c C D) : q_KOK l dC dI dA Hb ad 276 k_310 K := q_body (cuts := u_310) o_310 (L := 3) (fun q hq => by
    unfold u_310 at hq
    simp only [List.mem_cons, List.not_mem_nil, or_false] at hq
    rcases hq with rfl | rfl
    · exact o_310_0
    · exact o_310_1) ih
theorem ko_311 {K : Nat} (ih : ∀ D, D < K → ∀ c, ∀ C ∈ tab c, q_KOK l dC dI dA Hb ad c C D) : q_KOK l dC dI dA Hb ad 277 k_311 K := q_body (cuts := u_311) o_311 (L := 3) (fun q hq => by
    unfold u_311 at hq
    simp only [List.mem_cons, List.not_mem_nil, or_false] at hq
    rcases hq with rfl | rfl
    · exact o_311_0
    · exact o_311_1) ih
theorem ko_312 {K : Nat} (ih : ∀ D, D < K → ∀ c, ∀ C ∈ tab c, q_KOK l dC dI dA Hb ad c C D) : q_KOK l dC dI dA Hb ad 278 k_312 K := q_body (cuts := u_312) o_312 (L := 0) (fun q hq => nomatch hq) ih
theorem ko_313 {K : Nat} (ih : ∀ D, D < K → ∀ c, ∀ C ∈ tab c, q_KOK l dC dI dA Hb ad c C D) : q_KOK l dC dI dA Hb ad 279 k_313 K := q_body (cuts := u_313) o_313 (L := 0) (fun q hq => nomatch hq) ih
theorem ko_314 {K : Nat} (ih : ∀ D, D < K → ∀ c, ∀ C ∈ tab c, q_KOK l dC dI dA Hb ad c C D) : q_KOK l dC dI dA Hb ad 281 k_314 K := q_body (cuts := u_314) o_314 (L := 1) (fun q hq => by
    unfold u_314 at hq
    simp only [List.mem_cons, List.not_mem_nil, or_false] at hq
    rcases hq with rfl
    · exact o_314_0) ih
theorem ko_315 {K : Nat} (ih : ∀ D, D < K → ∀ c, ∀ C ∈ tab c, q_KOK l dC dI dA Hb ad c C D) : q_KOK l dC dI dA Hb ad 283 k_315 K := by
  refine q_split (j := 27) (lo := vP 0) (hi := vP 7) rfl fun z h1 h2 => ?_
  have hz : z = 0 ∨ z = 1 ∨ z = 2 ∨ z = 3 ∨ z = 4 ∨ z = 5 ∨ z = 6 ∨ z = 7 := by
    have h1 : (0 : Int) ≤ z := h1
    have h2 : z ≤ (7 : Int) := h2
    omega
  rcases hz with rfl | rfl | rfl | rfl | rfl | rfl | rfl | rfl
  · exact q_body (cuts := w_315_0) o_315_0 (L := 0) (fun q hq => by
    unfold w_315_0 at hq
    simp only [List.mem_cons, List.not_mem_nil, or_false] at hq
    rcases hq with rfl
    · exact o_315_0_0) ih
  · exact q_body (cuts := w_315_1) o_315_1 (L := 1) (fun q hq => by
    unfold w_315_1 at hq
    simp only [List.mem_cons, List.not_mem_nil, or_false] at hq
    rcases hq with rfl
    · exact o_315_1_0) ih
  · exact q_body (cuts := w_315_2) o_315_2 (L := 1) (fun q hq => by
    unfold w_315_2 at hq
    simp only [List.mem_cons, List.not_mem_nil, or_false] at hq
    rcases hq with rfl
    · exact o_315_2_0) ih
  · exact q_body (cuts := w_315_3) o_315_3 (L := 1) (fun q hq => by
    unfold w_315_3 at hq
    simp only [List.mem_cons, List.not_mem_nil, or_false] at hq
    rcases hq with rfl
    · exact o_315_3_0) ih
  · exact q_body (cuts := w_315_4) o_315_4 (L := 1) (fun q hq => by
    unfold w_315_4 at hq
    simp only [List.mem_cons, List.not_mem_nil, or_false] at hq
    rcases hq with rfl
    · exact o_315_4_0) ih
  · exact q_body (cuts := w_315_5) o_315_5 (L := 1) (fun q hq => by
    unfold w_315_5 at hq
    simp only [List.mem_cons, List.not_mem_nil, or_false] at hq
    rcases hq with rfl
    · exact o_315_5_0) ih
  · exact q_body (cuts := w_315_6) o_315_6 (L := 1) (fun q hq => by
    unfold w_315_6 at hq
    simp only [List.mem_cons, List.not_mem_nil, or_false] at hq
    rcases hq with rfl
    · exact o_315_6_0) ih
  · exact q_body (cuts := w_315_7) o_315_7 (L := 1) (fun q hq => by
    unfold w_315_7 at hq
    simp only [List.mem_cons, List.not_mem_nil, or_false] at hq
    rcases hq with rfl
    · exact o_315_7_0) ih
theorem ko_316 {K : Nat} (ih : ∀ D, D < K → ∀ c, ∀ C ∈ tab c, q_KOK l dC dI dA Hb ad c C D) : q_KOK l dC dI dA Hb ad 285 k_316 K := q_body (cuts := u_316) o_316 (L := 1) (fun q hq => by
    unfold u_316 at hq
    simp only [List.mem_cons, List.not_mem_nil, or_false] at hq
    rcases hq with rfl
    · exact o_316_0) ih
theorem ko_317 {K : Nat} (ih : ∀ D, D < K → ∀ c, ∀ C ∈ tab c, q_KOK l dC dI dA Hb ad c C D) : q_KOK l dC dI dA Hb ad 287 k_317 K := q_body (cuts := u_317) o_317 (L := 0) (fun q hq => nomatch hq) ih
theorem ko_318 {K : Nat} (ih : ∀ D, D < K → ∀ c, ∀ C ∈ tab c, q_KOK l dC dI dA Hb ad c C D) : q_KOK l dC dI dA Hb ad 290 k_318 K := q_body (cuts := u_318) o_318 (L := 0) (fun q hq => nomatch hq) ih
theorem ko_319 {K : Nat} (ih : ∀ D, D < K → ∀ c, ∀ C ∈ tab c, q_KOK l dC dI dA Hb ad c C D) : q_KOK l dC dI dA Hb ad 291 k_319 K := q_body (cuts := u_319) o_319 (L := 0) (fun q hq => nomatch hq) ih
theorem oU_15 : s_chkU tab 51 k_15 [(14, 40), (15, 40)] [20, 30] 12 = true := by decide +kernel
theorem ko_15 {K : Nat} (ih : ∀ D, D < K → ∀ c, ∀ C ∈ tab c, q_KOK l dC dI dA Hb ad c C D) : q_KOK l dC dI dA Hb ad 51 k_15 K := q_bodyU oU_15 ih
theorem oU_16 : s_chkU tab 51 k_16 [(14, 40), (15, 40)] [20, 30] 12 = true := by decide +kernel
theorem ko_16 {K : Nat} (ih : ∀ D, D < K → ∀ c, ∀ C ∈ tab c, q_KOK l dC dI dA Hb ad c C D) : q_KOK l dC dI dA Hb ad 51 k_16 K := q_bodyU oU_16 ih
theorem oU_241 : s_chkU tab 239 k_241 [(89, 240)] [53, 92, 108, 128, 162, 186] 12 = true := by decide +kernel
theorem ko_241 {K : Nat} (ih : ∀ D, D < K → ∀ c, ∀ C ∈ tab c, q_KOK l dC dI dA Hb ad c C D) : q_KOK l dC dI dA Hb ad 239 k_241 K := q_bodyU oU_241 ih
end Koks
