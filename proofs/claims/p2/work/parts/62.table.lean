/-! The table. -/
section Table
variable {l : Launch} {dC : Nat → ClassId} {dI : Nat → Nat → Nat} {dA : FieldType → ClassId} {Hb : Heap} {ad : Nat → Nat}
theorem q_tabK {K : Nat} (ih : ∀ D, D < K → ∀ c, ∀ C ∈ tab c, q_KOK l dC dI dA Hb ad c C D) (hk_42 : q_KOK l dC dI dA Hb ad 50 k_42 K) (hk_247 : q_KOK l dC dI dA Hb ad 270 k_247 K) (hk_306 : q_KOK l dC dI dA Hb ad 272 k_306 K) : ∀ c, ∀ C ∈ tab c, q_KOK l dC dI dA Hb ad c C K := by
  intro c C hC
  unfold tab at hC
  cases h2 : Nat.blt c 155 with
  | true =>
    rw [h2] at hC
    simp only [cond_true] at hC
    cases h4 : Nat.blt c 102 with
    | true =>
      rw [h4] at hC
      simp only [cond_true] at hC
      cases h6 : Nat.blt c 58 with
      | true =>
        rw [h6] at hC
        simp only [cond_true] at hC
        cases h8 : Nat.blt c 29 with
        | true =>
          rw [h8] at hC
          simp only [cond_true] at hC
          cases h10 : Nat.blt c 11 with
          | true =>
            rw [h10] at hC
            simp only [cond_true] at hC
            cases h12 : Nat.blt c 5 with
            | true =>
              rw [h12] at hC
              simp only [cond_true] at hC
              cases h14 : Nat.blt c 3 with
              | true =>
                rw [h14] at hC
                simp only [cond_true] at hC
                cases hb : Nat.beq c 2 with
                | false => rw [hb] at hC; exact nomatch hC
                | true =>
                  rw [hb] at hC
                  have e := Nat.eq_of_beq_eq_true hb
                  subst e
                  simp only [cond_true, List.mem_cons, List.not_mem_nil, or_false] at hC
                  rcases hC with rfl
                  · exact ko_4 ih
              | false =>
                rw [h14] at hC
                simp only [cond_false] at hC
                cases hb : Nat.beq c 3 with
                | false => rw [hb] at hC; exact nomatch hC
                | true =>
                  rw [hb] at hC
                  have e := Nat.eq_of_beq_eq_true hb
                  subst e
                  simp only [cond_true, List.mem_cons, List.not_mem_nil, or_false] at hC
                  rcases hC with rfl
                  · exact ko_3 ih
            | false =>
              rw [h12] at hC
              simp only [cond_false] at hC
              cases h14 : Nat.blt c 8 with
              | true =>
                rw [h14] at hC
                simp only [cond_true] at hC
                cases hb : Nat.beq c 5 with
                | false => rw [hb] at hC; exact nomatch hC
                | true =>
                  rw [hb] at hC
                  have e := Nat.eq_of_beq_eq_true hb
                  subst e
                  simp only [cond_true, List.mem_cons, List.not_mem_nil, or_false] at hC
                  rcases hC with rfl
                  · exact ko_5 ih
              | false =>
                rw [h14] at hC
                simp only [cond_false] at hC
                cases h16 : Nat.blt c 10 with
                | true =>
                  rw [h16] at hC
                  simp only [cond_true] at hC
                  cases hb : Nat.beq c 8 with
                  | false => rw [hb] at hC; exact nomatch hC
                  | true =>
                    rw [hb] at hC
                    have e := Nat.eq_of_beq_eq_true hb
                    subst e
                    simp only [cond_true, List.mem_cons, List.not_mem_nil, or_false] at hC
                    rcases hC with rfl
                    · exact ko_6 ih
                | false =>
                  rw [h16] at hC
                  simp only [cond_false] at hC
                  cases hb : Nat.beq c 10 with
                  | false => rw [hb] at hC; exact nomatch hC
                  | true =>
                    rw [hb] at hC
                    have e := Nat.eq_of_beq_eq_true hb
                    subst e
                    simp only [cond_true, List.mem_cons, List.not_mem_nil, or_false] at hC
                    rcases hC with rfl
                    · exact ko_7 ih
          | false =>
            rw [h10] at hC
            simp only [cond_false] at hC
            cases h12 : Nat.blt c 16 with
            | true =>
              rw [h12] at hC
              simp only [cond_true] at hC
              cases h14 : Nat.blt c 12 with
              | true =>
                rw [h14] at hC
                simp only [cond_true] at hC
                cases hb : Nat.beq c 11 with
                | false => rw [hb] at hC; exact nomatch hC
                | true =>
                  rw [hb] at hC
                  have e := Nat.eq_of_beq_eq_true hb
                  subst e
                  simp only [cond_true, List.mem_cons, List.not_mem_nil, or_false] at hC
                  rcases hC with rfl
                  · exact ko_10 ih
              | false =>
                rw [h14] at hC
                simp only [cond_false] at hC
                cases h16 : Nat.blt c 13 with
                | true =>
                  rw [h16] at hC
                  simp only [cond_true] at hC
                  cases hb : Nat.beq c 12 with
                  | false => rw [hb] at hC; exact nomatch hC
                  | true =>
                    rw [hb] at hC
                    have e := Nat.eq_of_beq_eq_true hb
                    subst e
                    simp only [cond_true, List.mem_cons, List.not_mem_nil, or_false] at hC
                    rcases hC with rfl
                    · exact ko_8 ih
                | false =>
                  rw [h16] at hC
                  simp only [cond_false] at hC
                  cases hb : Nat.beq c 13 with
                  | false => rw [hb] at hC; exact nomatch hC
                  | true =>
                    rw [hb] at hC
                    have e := Nat.eq_of_beq_eq_true hb
                    subst e
                    simp only [cond_true, List.mem_cons, List.not_mem_nil, or_false] at hC
                    rcases hC with rfl
                    · exact ko_9 ih
            | false =>
              rw [h12] at hC
              simp only [cond_false] at hC
              cases h14 : Nat.blt c 19 with
              | true =>
                rw [h14] at hC
                simp only [cond_true] at hC
                cases hb : Nat.beq c 16 with
                | false => rw [hb] at hC; exact nomatch hC
                | true =>
                  rw [hb] at hC
                  have e := Nat.eq_of_beq_eq_true hb
                  subst e
                  simp only [cond_true, List.mem_cons, List.not_mem_nil, or_false] at hC
                  rcases hC with rfl
                  · exact ko_44 ih
              | false =>
                rw [h14] at hC
                simp only [cond_false] at hC
                cases h16 : Nat.blt c 23 with
                | true =>
                  rw [h16] at hC
                  simp only [cond_true] at hC
                  cases hb : Nat.beq c 19 with
                  | false => rw [hb] at hC; exact nomatch hC
                  | true =>
                    rw [hb] at hC
                    have e := Nat.eq_of_beq_eq_true hb
                    subst e
                    simp only [cond_true, List.mem_cons, List.not_mem_nil, or_false] at hC
                    rcases hC with rfl
                    · exact ko_45 ih
                | false =>
                  rw [h16] at hC
                  simp only [cond_false] at hC
                  cases hb : Nat.beq c 23 with
                  | false => rw [hb] at hC; exact nomatch hC
                  | true =>
                    rw [hb] at hC
                    have e := Nat.eq_of_beq_eq_true hb
                    subst e
                    simp only [cond_true, List.mem_cons, List.not_mem_nil, or_false] at hC
                    rcases hC with rfl
                    · exact ko_46 ih
        | false =>
          rw [h8] at hC
          simp only [cond_false] at hC
          cases h10 : Nat.blt c 51 with
          | true =>
            rw [h10] at hC
            simp only [cond_true] at hC
            cases h12 : Nat.blt c 38 with
            | true =>
              rw [h12] at hC
              simp only [cond_true] at hC
              cases h14 : Nat.blt c 31 with
              | true =>
                rw [h14] at hC
                simp only [cond_true] at hC
                cases hb : Nat.beq c 29 with
                | false => rw [hb] at hC; exact nomatch hC
                | true =>
                  rw [hb] at hC
                  have e := Nat.eq_of_beq_eq_true hb
                  subst e
                  simp only [cond_true, List.mem_cons, List.not_mem_nil, or_false] at hC
                  rcases hC with rfl
                  · exact ko_11 ih
              | false =>
                rw [h14] at hC
                simp only [cond_false] at hC
                cases hb : Nat.beq c 31 with
                | false => rw [hb] at hC; exact nomatch hC
                | true =>
                  rw [hb] at hC
                  have e := Nat.eq_of_beq_eq_true hb
                  subst e
                  simp only [cond_true, List.mem_cons, List.not_mem_nil, or_false] at hC
                  rcases hC with rfl
                  · exact ko_12 ih
            | false =>
              rw [h12] at hC
              simp only [cond_false] at hC
              cases h14 : Nat.blt c 39 with
              | true =>
                rw [h14] at hC
                simp only [cond_true] at hC
                cases hb : Nat.beq c 38 with
                | false => rw [hb] at hC; exact nomatch hC
                | true =>
                  rw [hb] at hC
                  have e := Nat.eq_of_beq_eq_true hb
                  subst e
                  simp only [cond_true, List.mem_cons, List.not_mem_nil, or_false] at hC
                  rcases hC with rfl
                  · exact ko_14 ih
              | false =>
                rw [h14] at hC
                simp only [cond_false] at hC
                cases h16 : Nat.blt c 50 with
                | true =>
                  rw [h16] at hC
                  simp only [cond_true] at hC
                  cases hb : Nat.beq c 39 with
                  | false => rw [hb] at hC; exact nomatch hC
                  | true =>
                    rw [hb] at hC
                    have e := Nat.eq_of_beq_eq_true hb
                    subst e
                    simp only [cond_true, List.mem_cons, List.not_mem_nil, or_false] at hC
                    rcases hC with rfl
                    · exact ko_13 ih
                | false =>
                  rw [h16] at hC
                  simp only [cond_false] at hC
                  cases hb : Nat.beq c 50 with
                  | false => rw [hb] at hC; exact nomatch hC
                  | true =>
                    rw [hb] at hC
                    have e := Nat.eq_of_beq_eq_true hb
                    subst e
                    simp only [cond_true, List.mem_cons, List.not_mem_nil, or_false] at hC
                    rcases hC with rfl
                    · exact hk_42
          | false =>
            rw [h10] at hC
            simp only [cond_false] at hC
            cases h12 : Nat.blt c 54 with
            | true =>
              rw [h12] at hC
              simp only [cond_true] at hC
              cases h14 : Nat.blt c 52 with
              | true =>
                rw [h14] at hC
                simp only [cond_true] at hC
                cases hb : Nat.beq c 51 with
                | false => rw [hb] at hC; exact nomatch hC
                | true =>
                  rw [hb] at hC
                  have e := Nat.eq_of_beq_eq_true hb
                  subst e
                  simp only [cond_true, List.mem_cons, List.not_mem_nil, or_false] at hC
                  rcases hC with rfl | rfl
                  · exact ko_15 ih
                  · exact ko_16 ih
              | false =>
                rw [h14] at hC
                simp only [cond_false] at hC
                cases h16 : Nat.blt c 53 with
                | true =>
                  rw [h16] at hC
                  simp only [cond_true] at hC
                  cases hb : Nat.beq c 52 with
                  | false => rw [hb] at hC; exact nomatch hC
                  | true =>
                    rw [hb] at hC
                    have e := Nat.eq_of_beq_eq_true hb
                    subst e
                    simp only [cond_true, List.mem_cons, List.not_mem_nil, or_false] at hC
                    rcases hC with rfl | rfl | rfl | rfl | rfl
                    · exact ko_37 ih
                    · exact ko_38 ih
                    · exact ko_39 ih
                    · exact ko_40 ih
                    · exact ko_41 ih
                | false =>
                  rw [h16] at hC
                  simp only [cond_false] at hC
                  cases hb : Nat.beq c 53 with
                  | false => rw [hb] at hC; exact nomatch hC
                  | true =>
                    rw [hb] at hC
                    have e := Nat.eq_of_beq_eq_true hb
                    subst e
                    simp only [cond_true, List.mem_cons, List.not_mem_nil, or_false] at hC
                    rcases hC with rfl | rfl | rfl | rfl | rfl
                    · exact ko_32 ih
                    · exact ko_33 ih
                    · exact ko_34 ih
                    · exact ko_35 ih
                    · exact ko_36 ih
            | false =>
              rw [h12] at hC
              simp only [cond_false] at hC
              cases h14 : Nat.blt c 55 with
              | true =>
                rw [h14] at hC
                simp only [cond_true] at hC
                cases hb : Nat.beq c 54 with
                | false => rw [hb] at hC; exact nomatch hC
                | true =>
                  rw [hb] at hC
                  have e := Nat.eq_of_beq_eq_true hb
                  subst e
                  simp only [cond_true, List.mem_cons, List.not_mem_nil, or_false] at hC
                  rcases hC with rfl | rfl | rfl | rfl | rfl
                  · exact ko_27 ih
                  · exact ko_28 ih
                  · exact ko_29 ih
                  · exact ko_30 ih
                  · exact ko_31 ih
              | false =>
                rw [h14] at hC
                simp only [cond_false] at hC
                cases h16 : Nat.blt c 56 with
                | true =>
                  rw [h16] at hC
                  simp only [cond_true] at hC
                  cases hb : Nat.beq c 55 with
                  | false => rw [hb] at hC; exact nomatch hC
                  | true =>
                    rw [hb] at hC
                    have e := Nat.eq_of_beq_eq_true hb
                    subst e
                    simp only [cond_true, List.mem_cons, List.not_mem_nil, or_false] at hC
                    rcases hC with rfl | rfl | rfl | rfl | rfl
                    · exact ko_22 ih
                    · exact ko_23 ih
                    · exact ko_24 ih
                    · exact ko_25 ih
                    · exact ko_26 ih
                | false =>
                  rw [h16] at hC
                  simp only [cond_false] at hC
                  cases hb : Nat.beq c 56 with
                  | false => rw [hb] at hC; exact nomatch hC
                  | true =>
                    rw [hb] at hC
                    have e := Nat.eq_of_beq_eq_true hb
                    subst e
                    simp only [cond_true, List.mem_cons, List.not_mem_nil, or_false] at hC
                    rcases hC with rfl | rfl | rfl | rfl | rfl
                    · exact ko_17 ih
                    · exact ko_18 ih
                    · exact ko_19 ih
                    · exact ko_20 ih
                    · exact ko_21 ih
      | false =>
        rw [h6] at hC
        simp only [cond_false] at hC
        cases h8 : Nat.blt c 87 with
        | true =>
          rw [h8] at hC
          simp only [cond_true] at hC
          cases h10 : Nat.blt c 79 with
          | true =>
            rw [h10] at hC
            simp only [cond_true] at hC
            cases h12 : Nat.blt c 76 with
            | true =>
              rw [h12] at hC
              simp only [cond_true] at hC
              cases h14 : Nat.blt c 63 with
              | true =>
                rw [h14] at hC
                simp only [cond_true] at hC
                cases hb : Nat.beq c 58 with
                | false => rw [hb] at hC; exact nomatch hC
                | true =>
                  rw [hb] at hC
                  have e := Nat.eq_of_beq_eq_true hb
                  subst e
                  simp only [cond_true, List.mem_cons, List.not_mem_nil, or_false] at hC
                  rcases hC with rfl
                  · exact ko_43 ih
              | false =>
                rw [h14] at hC
                simp only [cond_false] at hC
                cases hb : Nat.beq c 63 with
                | false => rw [hb] at hC; exact nomatch hC
                | true =>
                  rw [hb] at hC
                  have e := Nat.eq_of_beq_eq_true hb
                  subst e
                  simp only [cond_true, List.mem_cons, List.not_mem_nil, or_false] at hC
                  rcases hC with rfl
                  · exact ko_47 ih
            | false =>
              rw [h12] at hC
              simp only [cond_false] at hC
              cases h14 : Nat.blt c 77 with
              | true =>
                rw [h14] at hC
                simp only [cond_true] at hC
                cases hb : Nat.beq c 76 with
                | false => rw [hb] at hC; exact nomatch hC
                | true =>
                  rw [hb] at hC
                  have e := Nat.eq_of_beq_eq_true hb
                  subst e
                  simp only [cond_true, List.mem_cons, List.not_mem_nil, or_false] at hC
                  rcases hC with rfl
                  · exact ko_48 ih
              | false =>
                rw [h14] at hC
                simp only [cond_false] at hC
                cases h16 : Nat.blt c 78 with
                | true =>
                  rw [h16] at hC
                  simp only [cond_true] at hC
                  cases hb : Nat.beq c 77 with
                  | false => rw [hb] at hC; exact nomatch hC
                  | true =>
                    rw [hb] at hC
                    have e := Nat.eq_of_beq_eq_true hb
                    subst e
                    simp only [cond_true, List.mem_cons, List.not_mem_nil, or_false] at hC
                    rcases hC with rfl
                    · exact ko_49 ih
                | false =>
                  rw [h16] at hC
                  simp only [cond_false] at hC
                  cases hb : Nat.beq c 78 with
                  | false => rw [hb] at hC; exact nomatch hC
                  | true =>
                    rw [hb] at hC
                    have e := Nat.eq_of_beq_eq_true hb
                    subst e
                    simp only [cond_true, List.mem_cons, List.not_mem_nil, or_false] at hC
                    rcases hC with rfl
                    · exact ko_50 ih
          | false =>
            rw [h10] at hC
            simp only [cond_false] at hC
            cases h12 : Nat.blt c 83 with
            | true =>
              rw [h12] at hC
              simp only [cond_true] at hC
              cases h14 : Nat.blt c 80 with
              | true =>
                rw [h14] at hC
                simp only [cond_true] at hC
                cases hb : Nat.beq c 79 with
                | false => rw [hb] at hC; exact nomatch hC
                | true =>
                  rw [hb] at hC
                  have e := Nat.eq_of_beq_eq_true hb
                  subst e
                  simp only [cond_true, List.mem_cons, List.not_mem_nil, or_false] at hC
                  rcases hC with rfl
                  · exact ko_51 ih
              | false =>
                rw [h14] at hC
                simp only [cond_false] at hC
                cases h16 : Nat.blt c 82 with
                | true =>
                  rw [h16] at hC
                  simp only [cond_true] at hC
                  cases hb : Nat.beq c 80 with
                  | false => rw [hb] at hC; exact nomatch hC
                  | true =>
                    rw [hb] at hC
                    have e := Nat.eq_of_beq_eq_true hb
                    subst e
                    simp only [cond_true, List.mem_cons, List.not_mem_nil, or_false] at hC
                    rcases hC with rfl
                    · exact ko_52 ih
                | false =>
                  rw [h16] at hC
                  simp only [cond_false] at hC
                  cases hb : Nat.beq c 82 with
                  | false => rw [hb] at hC; exact nomatch hC
                  | true =>
                    rw [hb] at hC
                    have e := Nat.eq_of_beq_eq_true hb
                    subst e
                    simp only [cond_true, List.mem_cons, List.not_mem_nil, or_false] at hC
                    rcases hC with rfl
                    · exact ko_53 ih
            | false =>
              rw [h12] at hC
              simp only [cond_false] at hC
              cases h14 : Nat.blt c 84 with
              | true =>
                rw [h14] at hC
                simp only [cond_true] at hC
                cases hb : Nat.beq c 83 with
                | false => rw [hb] at hC; exact nomatch hC
                | true =>
                  rw [hb] at hC
                  have e := Nat.eq_of_beq_eq_true hb
                  subst e
                  simp only [cond_true, List.mem_cons, List.not_mem_nil, or_false] at hC
                  rcases hC with rfl
                  · exact ko_54 ih
              | false =>
                rw [h14] at hC
                simp only [cond_false] at hC
                cases h16 : Nat.blt c 86 with
                | true =>
                  rw [h16] at hC
                  simp only [cond_true] at hC
                  cases hb : Nat.beq c 84 with
                  | false => rw [hb] at hC; exact nomatch hC
                  | true =>
                    rw [hb] at hC
                    have e := Nat.eq_of_beq_eq_true hb
                    subst e
                    simp only [cond_true, List.mem_cons, List.not_mem_nil, or_false] at hC
                    rcases hC with rfl
                    · exact ko_56 ih
                | false =>
                  rw [h16] at hC
                  simp only [cond_false] at hC
                  cases hb : Nat.beq c 86 with
                  | false => rw [hb] at hC; exact nomatch hC
                  | true =>
                    rw [hb] at hC
                    have e := Nat.eq_of_beq_eq_true hb
                    subst e
                    simp only [cond_true, List.mem_cons, List.not_mem_nil, or_false] at hC
                    rcases hC with rfl
                    · exact ko_55 ih
        | false =>
          rw [h8] at hC
          simp only [cond_false] at hC
          cases h10 : Nat.blt c 93 with
          | true =>
            rw [h10] at hC
            simp only [cond_true] at hC
            cases h12 : Nat.blt c 90 with
            | true =>
              rw [h12] at hC
              simp only [cond_true] at hC
              cases h14 : Nat.blt c 88 with
              | true =>
                rw [h14] at hC
                simp only [cond_true] at hC
                cases hb : Nat.beq c 87 with
                | false => rw [hb] at hC; exact nomatch hC
                | true =>
                  rw [hb] at hC
                  have e := Nat.eq_of_beq_eq_true hb
                  subst e
                  simp only [cond_true, List.mem_cons, List.not_mem_nil, or_false] at hC
                  rcases hC with rfl
                  · exact ko_57 ih
              | false =>
                rw [h14] at hC
                simp only [cond_false] at hC
                cases hb : Nat.beq c 88 with
                | false => rw [hb] at hC; exact nomatch hC
                | true =>
                  rw [hb] at hC
                  have e := Nat.eq_of_beq_eq_true hb
                  subst e
                  simp only [cond_true, List.mem_cons, List.not_mem_nil, or_false] at hC
                  rcases hC with rfl
                  · exact ko_109 ih
            | false =>
              rw [h12] at hC
              simp only [cond_false] at hC
              cases h14 : Nat.blt c 91 with
              | true =>
                rw [h14] at hC
                simp only [cond_true] at hC
                cases hb : Nat.beq c 90 with
                | false => rw [hb] at hC; exact nomatch hC
                | true =>
                  rw [hb] at hC
                  have e := Nat.eq_of_beq_eq_true hb
                  subst e
                  simp only [cond_true, List.mem_cons, List.not_mem_nil, or_false] at hC
                  rcases hC with rfl | rfl | rfl | rfl | rfl | rfl | rfl | rfl | rfl | rfl | rfl | rfl | rfl | rfl | rfl | rfl | rfl | rfl
                  · exact ko_63 ih
                  · exact ko_64 ih
                  · exact ko_65 ih
                  · exact ko_66 ih
                  · exact ko_67 ih
                  · exact ko_68 ih
                  · exact ko_69 ih
                  · exact ko_70 ih
                  · exact ko_71 ih
                  · exact ko_72 ih
                  · exact ko_73 ih
                  · exact ko_74 ih
                  · exact ko_75 ih
                  · exact ko_76 ih
                  · exact ko_77 ih
                  · exact ko_78 ih
                  · exact ko_79 ih
                  · exact ko_80 ih
              | false =>
                rw [h14] at hC
                simp only [cond_false] at hC
                cases h16 : Nat.blt c 92 with
                | true =>
                  rw [h16] at hC
                  simp only [cond_true] at hC
                  cases hb : Nat.beq c 91 with
                  | false => rw [hb] at hC; exact nomatch hC
                  | true =>
                    rw [hb] at hC
                    have e := Nat.eq_of_beq_eq_true hb
                    subst e
                    simp only [cond_true, List.mem_cons, List.not_mem_nil, or_false] at hC
                    rcases hC with rfl
                    · exact ko_60 ih
                | false =>
                  rw [h16] at hC
                  simp only [cond_false] at hC
                  cases hb : Nat.beq c 92 with
                  | false => rw [hb] at hC; exact nomatch hC
                  | true =>
                    rw [hb] at hC
                    have e := Nat.eq_of_beq_eq_true hb
                    subst e
                    simp only [cond_true, List.mem_cons, List.not_mem_nil, or_false] at hC
                    rcases hC with rfl
                    · exact ko_58 ih
          | false =>
            rw [h10] at hC
            simp only [cond_false] at hC
            cases h12 : Nat.blt c 98 with
            | true =>
              rw [h12] at hC
              simp only [cond_true] at hC
              cases h14 : Nat.blt c 94 with
              | true =>
                rw [h14] at hC
                simp only [cond_true] at hC
                cases hb : Nat.beq c 93 with
                | false => rw [hb] at hC; exact nomatch hC
                | true =>
                  rw [hb] at hC
                  have e := Nat.eq_of_beq_eq_true hb
                  subst e
                  simp only [cond_true, List.mem_cons, List.not_mem_nil, or_false] at hC
                  rcases hC with rfl
                  · exact ko_59 ih
              | false =>
                rw [h14] at hC
                simp only [cond_false] at hC
                cases h16 : Nat.blt c 95 with
                | true =>
                  rw [h16] at hC
                  simp only [cond_true] at hC
                  cases hb : Nat.beq c 94 with
                  | false => rw [hb] at hC; exact nomatch hC
                  | true =>
                    rw [hb] at hC
                    have e := Nat.eq_of_beq_eq_true hb
                    subst e
                    simp only [cond_true, List.mem_cons, List.not_mem_nil, or_false] at hC
                    rcases hC with rfl
                    · exact ko_62 ih
                | false =>
                  rw [h16] at hC
                  simp only [cond_false] at hC
                  cases hb : Nat.beq c 95 with
                  | false => rw [hb] at hC; exact nomatch hC
                  | true =>
                    rw [hb] at hC
                    have e := Nat.eq_of_beq_eq_true hb
                    subst e
                    simp only [cond_true, List.mem_cons, List.not_mem_nil, or_false] at hC
                    rcases hC with rfl
                    · exact ko_61 ih
            | false =>
              rw [h12] at hC
              simp only [cond_false] at hC
              cases h14 : Nat.blt c 99 with
              | true =>
                rw [h14] at hC
                simp only [cond_true] at hC
                cases hb : Nat.beq c 98 with
                | false => rw [hb] at hC; exact nomatch hC
                | true =>
                  rw [hb] at hC
                  have e := Nat.eq_of_beq_eq_true hb
                  subst e
                  simp only [cond_true, List.mem_cons, List.not_mem_nil, or_false] at hC
                  rcases hC with rfl
                  · exact ko_81 ih
              | false =>
                rw [h14] at hC
                simp only [cond_false] at hC
                cases h16 : Nat.blt c 101 with
                | true =>
                  rw [h16] at hC
                  simp only [cond_true] at hC
                  cases hb : Nat.beq c 99 with
                  | false => rw [hb] at hC; exact nomatch hC
                  | true =>
                    rw [hb] at hC
                    have e := Nat.eq_of_beq_eq_true hb
                    subst e
                    simp only [cond_true, List.mem_cons, List.not_mem_nil, or_false] at hC
                    rcases hC with rfl
                    · exact ko_110 ih
                | false =>
                  rw [h16] at hC
                  simp only [cond_false] at hC
                  cases hb : Nat.beq c 101 with
                  | false => rw [hb] at hC; exact nomatch hC
                  | true =>
                    rw [hb] at hC
                    have e := Nat.eq_of_beq_eq_true hb
                    subst e
                    simp only [cond_true, List.mem_cons, List.not_mem_nil, or_false] at hC
                    rcases hC with rfl | rfl | rfl | rfl | rfl | rfl | rfl | rfl | rfl | rfl | rfl | rfl | rfl | rfl | rfl | rfl
                    · exact ko_82 ih
                    · exact ko_83 ih
                    · exact ko_84 ih
                    · exact ko_85 ih
                    · exact ko_86 ih
                    · exact ko_87 ih
                    · exact ko_88 ih
                    · exact ko_89 ih
                    · exact ko_90 ih
                    · exact ko_91 ih
                    · exact ko_92 ih
                    · exact ko_93 ih
                    · exact ko_94 ih
                    · exact ko_95 ih
                    · exact ko_96 ih
                    · exact ko_97 ih
    | false =>
      rw [h4] at hC
      simp only [cond_false] at hC
      cases h6 : Nat.blt c 132 with
      | true =>
        rw [h6] at hC
        simp only [cond_true] at hC
        cases h8 : Nat.blt c 120 with
        | true =>
          rw [h8] at hC
          simp only [cond_true] at hC
          cases h10 : Nat.blt c 112 with
          | true =>
            rw [h10] at hC
            simp only [cond_true] at hC
            cases h12 : Nat.blt c 104 with
            | true =>
              rw [h12] at hC
              simp only [cond_true] at hC
              cases h14 : Nat.blt c 103 with
              | true =>
                rw [h14] at hC
                simp only [cond_true] at hC
                cases hb : Nat.beq c 102 with
                | false => rw [hb] at hC; exact nomatch hC
                | true =>
                  rw [hb] at hC
                  have e := Nat.eq_of_beq_eq_true hb
                  subst e
                  simp only [cond_true, List.mem_cons, List.not_mem_nil, or_false] at hC
                  rcases hC with rfl
                  · exact ko_99 ih
              | false =>
                rw [h14] at hC
                simp only [cond_false] at hC
                cases hb : Nat.beq c 103 with
                | false => rw [hb] at hC; exact nomatch hC
                | true =>
                  rw [hb] at hC
                  have e := Nat.eq_of_beq_eq_true hb
                  subst e
                  simp only [cond_true, List.mem_cons, List.not_mem_nil, or_false] at hC
                  rcases hC with rfl
                  · exact ko_98 ih
            | false =>
              rw [h12] at hC
              simp only [cond_false] at hC
              cases h14 : Nat.blt c 105 with
              | true =>
                rw [h14] at hC
                simp only [cond_true] at hC
                cases hb : Nat.beq c 104 with
                | false => rw [hb] at hC; exact nomatch hC
                | true =>
                  rw [hb] at hC
                  have e := Nat.eq_of_beq_eq_true hb
                  subst e
                  simp only [cond_true, List.mem_cons, List.not_mem_nil, or_false] at hC
                  rcases hC with rfl
                  · exact ko_101 ih
              | false =>
                rw [h14] at hC
                simp only [cond_false] at hC
                cases h16 : Nat.blt c 107 with
                | true =>
                  rw [h16] at hC
                  simp only [cond_true] at hC
                  cases hb : Nat.beq c 105 with
                  | false => rw [hb] at hC; exact nomatch hC
                  | true =>
                    rw [hb] at hC
                    have e := Nat.eq_of_beq_eq_true hb
                    subst e
                    simp only [cond_true, List.mem_cons, List.not_mem_nil, or_false] at hC
                    rcases hC with rfl
                    · exact ko_100 ih
                | false =>
                  rw [h16] at hC
                  simp only [cond_false] at hC
                  cases hb : Nat.beq c 107 with
                  | false => rw [hb] at hC; exact nomatch hC
                  | true =>
                    rw [hb] at hC
                    have e := Nat.eq_of_beq_eq_true hb
                    subst e
                    simp only [cond_true, List.mem_cons, List.not_mem_nil, or_false] at hC
                    rcases hC with rfl
                    · exact ko_102 ih
          | false =>
            rw [h10] at hC
            simp only [cond_false] at hC
            cases h12 : Nat.blt c 115 with
            | true =>
              rw [h12] at hC
              simp only [cond_true] at hC
              cases h14 : Nat.blt c 113 with
              | true =>
                rw [h14] at hC
                simp only [cond_true] at hC
                cases hb : Nat.beq c 112 with
                | false => rw [hb] at hC; exact nomatch hC
                | true =>
                  rw [hb] at hC
                  have e := Nat.eq_of_beq_eq_true hb
                  subst e
                  simp only [cond_true, List.mem_cons, List.not_mem_nil, or_false] at hC
                  rcases hC with rfl
                  · exact ko_111 ih
              | false =>
                rw [h14] at hC
                simp only [cond_false] at hC
                cases h16 : Nat.blt c 114 with
                | true =>
                  rw [h16] at hC
                  simp only [cond_true] at hC
                  cases hb : Nat.beq c 113 with
                  | false => rw [hb] at hC; exact nomatch hC
                  | true =>
                    rw [hb] at hC
                    have e := Nat.eq_of_beq_eq_true hb
                    subst e
                    simp only [cond_true, List.mem_cons, List.not_mem_nil, or_false] at hC
                    rcases hC with rfl
                    · exact ko_112 ih
                | false =>
                  rw [h16] at hC
                  simp only [cond_false] at hC
                  cases hb : Nat.beq c 114 with
                  | false => rw [hb] at hC; exact nomatch hC
                  | true =>
                    rw [hb] at hC
                    have e := Nat.eq_of_beq_eq_true hb
                    subst e
                    simp only [cond_true, List.mem_cons, List.not_mem_nil, or_false] at hC
                    rcases hC with rfl
                    · exact ko_113 ih
            | false =>
              rw [h12] at hC
              simp only [cond_false] at hC
              cases h14 : Nat.blt c 116 with
              | true =>
                rw [h14] at hC
                simp only [cond_true] at hC
                cases hb : Nat.beq c 115 with
                | false => rw [hb] at hC; exact nomatch hC
                | true =>
                  rw [hb] at hC
                  have e := Nat.eq_of_beq_eq_true hb
                  subst e
                  simp only [cond_true, List.mem_cons, List.not_mem_nil, or_false] at hC
                  rcases hC with rfl
                  · exact ko_114 ih
              | false =>
                rw [h14] at hC
                simp only [cond_false] at hC
                cases h16 : Nat.blt c 119 with
                | true =>
                  rw [h16] at hC
                  simp only [cond_true] at hC
                  cases hb : Nat.beq c 116 with
                  | false => rw [hb] at hC; exact nomatch hC
                  | true =>
                    rw [hb] at hC
                    have e := Nat.eq_of_beq_eq_true hb
                    subst e
                    simp only [cond_true, List.mem_cons, List.not_mem_nil, or_false] at hC
                    rcases hC with rfl
                    · exact ko_115 ih
                | false =>
                  rw [h16] at hC
                  simp only [cond_false] at hC
                  cases hb : Nat.beq c 119 with
                  | false => rw [hb] at hC; exact nomatch hC
                  | true =>
                    rw [hb] at hC
                    have e := Nat.eq_of_beq_eq_true hb
                    subst e
                    simp only [cond_true, List.mem_cons, List.not_mem_nil, or_false] at hC
                    rcases hC with rfl
                    · exact ko_116 ih
        | false =>
          rw [h8] at hC
          simp only [cond_false] at hC
          cases h10 : Nat.blt c 125 with
          | true =>
            rw [h10] at hC
            simp only [cond_true] at hC
            cases h12 : Nat.blt c 122 with
            | true =>
              rw [h12] at hC
              simp only [cond_true] at hC
              cases h14 : Nat.blt c 121 with
              | true =>
                rw [h14] at hC
                simp only [cond_true] at hC
                cases hb : Nat.beq c 120 with
                | false => rw [hb] at hC; exact nomatch hC
                | true =>
                  rw [hb] at hC
                  have e := Nat.eq_of_beq_eq_true hb
                  subst e
                  simp only [cond_true, List.mem_cons, List.not_mem_nil, or_false] at hC
                  rcases hC with rfl
                  · exact ko_117 ih
              | false =>
                rw [h14] at hC
                simp only [cond_false] at hC
                cases hb : Nat.beq c 121 with
                | false => rw [hb] at hC; exact nomatch hC
                | true =>
                  rw [hb] at hC
                  have e := Nat.eq_of_beq_eq_true hb
                  subst e
                  simp only [cond_true, List.mem_cons, List.not_mem_nil, or_false] at hC
                  rcases hC with rfl
                  · exact ko_118 ih
            | false =>
              rw [h12] at hC
              simp only [cond_false] at hC
              cases h14 : Nat.blt c 123 with
              | true =>
                rw [h14] at hC
                simp only [cond_true] at hC
                cases hb : Nat.beq c 122 with
                | false => rw [hb] at hC; exact nomatch hC
                | true =>
                  rw [hb] at hC
                  have e := Nat.eq_of_beq_eq_true hb
                  subst e
                  simp only [cond_true, List.mem_cons, List.not_mem_nil, or_false] at hC
                  rcases hC with rfl
                  · exact ko_119 ih
              | false =>
                rw [h14] at hC
                simp only [cond_false] at hC
                cases h16 : Nat.blt c 124 with
                | true =>
                  rw [h16] at hC
                  simp only [cond_true] at hC
                  cases hb : Nat.beq c 123 with
                  | false => rw [hb] at hC; exact nomatch hC
                  | true =>
                    rw [hb] at hC
                    have e := Nat.eq_of_beq_eq_true hb
                    subst e
                    simp only [cond_true, List.mem_cons, List.not_mem_nil, or_false] at hC
                    rcases hC with rfl
                    · exact ko_120 ih
                | false =>
                  rw [h16] at hC
                  simp only [cond_false] at hC
                  cases hb : Nat.beq c 124 with
                  | false => rw [hb] at hC; exact nomatch hC
                  | true =>
                    rw [hb] at hC
                    have e := Nat.eq_of_beq_eq_true hb
                    subst e
                    simp only [cond_true, List.mem_cons, List.not_mem_nil, or_false] at hC
                    rcases hC with rfl
                    · exact ko_121 ih
          | false =>
            rw [h10] at hC
            simp only [cond_false] at hC
            cases h12 : Nat.blt c 128 with
            | true =>
              rw [h12] at hC
              simp only [cond_true] at hC
              cases h14 : Nat.blt c 126 with
              | true =>
                rw [h14] at hC
                simp only [cond_true] at hC
                cases hb : Nat.beq c 125 with
                | false => rw [hb] at hC; exact nomatch hC
                | true =>
                  rw [hb] at hC
                  have e := Nat.eq_of_beq_eq_true hb
                  subst e
                  simp only [cond_true, List.mem_cons, List.not_mem_nil, or_false] at hC
                  rcases hC with rfl
                  · exact ko_122 ih
              | false =>
                rw [h14] at hC
                simp only [cond_false] at hC
                cases h16 : Nat.blt c 127 with
                | true =>
                  rw [h16] at hC
                  simp only [cond_true] at hC
                  cases hb : Nat.beq c 126 with
                  | false => rw [hb] at hC; exact nomatch hC
                  | true =>
                    rw [hb] at hC
                    have e := Nat.eq_of_beq_eq_true hb
                    subst e
                    simp only [cond_true, List.mem_cons, List.not_mem_nil, or_false] at hC
                    rcases hC with rfl
                    · exact ko_123 ih
                | false =>
                  rw [h16] at hC
                  simp only [cond_false] at hC
                  cases hb : Nat.beq c 127 with
                  | false => rw [hb] at hC; exact nomatch hC
                  | true =>
                    rw [hb] at hC
                    have e := Nat.eq_of_beq_eq_true hb
                    subst e
                    simp only [cond_true, List.mem_cons, List.not_mem_nil, or_false] at hC
                    rcases hC with rfl
                    · exact ko_124 ih
            | false =>
              rw [h12] at hC
              simp only [cond_false] at hC
              cases h14 : Nat.blt c 129 with
              | true =>
                rw [h14] at hC
                simp only [cond_true] at hC
                cases hb : Nat.beq c 128 with
                | false => rw [hb] at hC; exact nomatch hC
                | true =>
                  rw [hb] at hC
                  have e := Nat.eq_of_beq_eq_true hb
                  subst e
                  simp only [cond_true, List.mem_cons, List.not_mem_nil, or_false] at hC
                  rcases hC with rfl
                  · exact ko_125 ih
              | false =>
                rw [h14] at hC
                simp only [cond_false] at hC
                cases h16 : Nat.blt c 131 with
                | true =>
                  rw [h16] at hC
                  simp only [cond_true] at hC
                  cases hb : Nat.beq c 129 with
                  | false => rw [hb] at hC; exact nomatch hC
                  | true =>
                    rw [hb] at hC
                    have e := Nat.eq_of_beq_eq_true hb
                    subst e
                    simp only [cond_true, List.mem_cons, List.not_mem_nil, or_false] at hC
                    rcases hC with rfl
                    · exact ko_126 ih
                | false =>
                  rw [h16] at hC
                  simp only [cond_false] at hC
                  cases hb : Nat.beq c 131 with
                  | false => rw [hb] at hC; exact nomatch hC
                  | true =>
                    rw [hb] at hC
                    have e := Nat.eq_of_beq_eq_true hb
                    subst e
                    simp only [cond_true, List.mem_cons, List.not_mem_nil, or_false] at hC
                    rcases hC with rfl
                    · exact ko_127 ih
      | false =>
        rw [h6] at hC
        simp only [cond_false] at hC
        cases h8 : Nat.blt c 143 with
        | true =>
          rw [h8] at hC
          simp only [cond_true] at hC
          cases h10 : Nat.blt c 137 with
          | true =>
            rw [h10] at hC
            simp only [cond_true] at hC
            cases h12 : Nat.blt c 134 with
            | true =>
              rw [h12] at hC
              simp only [cond_true] at hC
              cases h14 : Nat.blt c 133 with
              | true =>
                rw [h14] at hC
                simp only [cond_true] at hC
                cases hb : Nat.beq c 132 with
                | false => rw [hb] at hC; exact nomatch hC
                | true =>
                  rw [hb] at hC
                  have e := Nat.eq_of_beq_eq_true hb
                  subst e
                  simp only [cond_true, List.mem_cons, List.not_mem_nil, or_false] at hC
                  rcases hC with rfl
                  · exact ko_128 ih
              | false =>
                rw [h14] at hC
                simp only [cond_false] at hC
                cases hb : Nat.beq c 133 with
                | false => rw [hb] at hC; exact nomatch hC
                | true =>
                  rw [hb] at hC
                  have e := Nat.eq_of_beq_eq_true hb
                  subst e
                  simp only [cond_true, List.mem_cons, List.not_mem_nil, or_false] at hC
                  rcases hC with rfl
                  · exact ko_129 ih
            | false =>
              rw [h12] at hC
              simp only [cond_false] at hC
              cases h14 : Nat.blt c 135 with
              | true =>
                rw [h14] at hC
                simp only [cond_true] at hC
                cases hb : Nat.beq c 134 with
                | false => rw [hb] at hC; exact nomatch hC
                | true =>
                  rw [hb] at hC
                  have e := Nat.eq_of_beq_eq_true hb
                  subst e
                  simp only [cond_true, List.mem_cons, List.not_mem_nil, or_false] at hC
                  rcases hC with rfl
                  · exact ko_130 ih
              | false =>
                rw [h14] at hC
                simp only [cond_false] at hC
                cases h16 : Nat.blt c 136 with
                | true =>
                  rw [h16] at hC
                  simp only [cond_true] at hC
                  cases hb : Nat.beq c 135 with
                  | false => rw [hb] at hC; exact nomatch hC
                  | true =>
                    rw [hb] at hC
                    have e := Nat.eq_of_beq_eq_true hb
                    subst e
                    simp only [cond_true, List.mem_cons, List.not_mem_nil, or_false] at hC
                    rcases hC with rfl
                    · exact ko_131 ih
                | false =>
                  rw [h16] at hC
                  simp only [cond_false] at hC
                  cases hb : Nat.beq c 136 with
                  | false => rw [hb] at hC; exact nomatch hC
                  | true =>
                    rw [hb] at hC
                    have e := Nat.eq_of_beq_eq_true hb
                    subst e
                    simp only [cond_true, List.mem_cons, List.not_mem_nil, or_false] at hC
                    rcases hC with rfl
                    · exact ko_132 ih
          | false =>
            rw [h10] at hC
            simp only [cond_false] at hC
            cases h12 : Nat.blt c 140 with
            | true =>
              rw [h12] at hC
              simp only [cond_true] at hC
              cases h14 : Nat.blt c 138 with
              | true =>
                rw [h14] at hC
                simp only [cond_true] at hC
                cases hb : Nat.beq c 137 with
                | false => rw [hb] at hC; exact nomatch hC
                | true =>
                  rw [hb] at hC
                  have e := Nat.eq_of_beq_eq_true hb
                  subst e
                  simp only [cond_true, List.mem_cons, List.not_mem_nil, or_false] at hC
                  rcases hC with rfl
                  · exact ko_133 ih
              | false =>
                rw [h14] at hC
                simp only [cond_false] at hC
                cases h16 : Nat.blt c 139 with
                | true =>
                  rw [h16] at hC
                  simp only [cond_true] at hC
                  cases hb : Nat.beq c 138 with
                  | false => rw [hb] at hC; exact nomatch hC
                  | true =>
                    rw [hb] at hC
                    have e := Nat.eq_of_beq_eq_true hb
                    subst e
                    simp only [cond_true, List.mem_cons, List.not_mem_nil, or_false] at hC
                    rcases hC with rfl
                    · exact ko_134 ih
                | false =>
                  rw [h16] at hC
                  simp only [cond_false] at hC
                  cases hb : Nat.beq c 139 with
                  | false => rw [hb] at hC; exact nomatch hC
                  | true =>
                    rw [hb] at hC
                    have e := Nat.eq_of_beq_eq_true hb
                    subst e
                    simp only [cond_true, List.mem_cons, List.not_mem_nil, or_false] at hC
                    rcases hC with rfl
                    · exact ko_135 ih
            | false =>
              rw [h12] at hC
              simp only [cond_false] at hC
              cases h14 : Nat.blt c 141 with
              | true =>
                rw [h14] at hC
                simp only [cond_true] at hC
                cases hb : Nat.beq c 140 with
                | false => rw [hb] at hC; exact nomatch hC
                | true =>
                  rw [hb] at hC
                  have e := Nat.eq_of_beq_eq_true hb
                  subst e
                  simp only [cond_true, List.mem_cons, List.not_mem_nil, or_false] at hC
                  rcases hC with rfl
                  · exact ko_136 ih
              | false =>
                rw [h14] at hC
                simp only [cond_false] at hC
                cases h16 : Nat.blt c 142 with
                | true =>
                  rw [h16] at hC
                  simp only [cond_true] at hC
                  cases hb : Nat.beq c 141 with
                  | false => rw [hb] at hC; exact nomatch hC
                  | true =>
                    rw [hb] at hC
                    have e := Nat.eq_of_beq_eq_true hb
                    subst e
                    simp only [cond_true, List.mem_cons, List.not_mem_nil, or_false] at hC
                    rcases hC with rfl
                    · exact ko_137 ih
                | false =>
                  rw [h16] at hC
                  simp only [cond_false] at hC
                  cases hb : Nat.beq c 142 with
                  | false => rw [hb] at hC; exact nomatch hC
                  | true =>
                    rw [hb] at hC
                    have e := Nat.eq_of_beq_eq_true hb
                    subst e
                    simp only [cond_true, List.mem_cons, List.not_mem_nil, or_false] at hC
                    rcases hC with rfl
                    · exact ko_138 ih
        | false =>
          rw [h8] at hC
          simp only [cond_false] at hC
          cases h10 : Nat.blt c 149 with
          | true =>
            rw [h10] at hC
            simp only [cond_true] at hC
            cases h12 : Nat.blt c 146 with
            | true =>
              rw [h12] at hC
              simp only [cond_true] at hC
              cases h14 : Nat.blt c 144 with
              | true =>
                rw [h14] at hC
                simp only [cond_true] at hC
                cases hb : Nat.beq c 143 with
                | false => rw [hb] at hC; exact nomatch hC
                | true =>
                  rw [hb] at hC
                  have e := Nat.eq_of_beq_eq_true hb
                  subst e
                  simp only [cond_true, List.mem_cons, List.not_mem_nil, or_false] at hC
                  rcases hC with rfl
                  · exact ko_139 ih
              | false =>
                rw [h14] at hC
                simp only [cond_false] at hC
                cases h16 : Nat.blt c 145 with
                | true =>
                  rw [h16] at hC
                  simp only [cond_true] at hC
                  cases hb : Nat.beq c 144 with
                  | false => rw [hb] at hC; exact nomatch hC
                  | true =>
                    rw [hb] at hC
                    have e := Nat.eq_of_beq_eq_true hb
                    subst e
                    simp only [cond_true, List.mem_cons, List.not_mem_nil, or_false] at hC
                    rcases hC with rfl
                    · exact ko_140 ih
                | false =>
                  rw [h16] at hC
                  simp only [cond_false] at hC
                  cases hb : Nat.beq c 145 with
                  | false => rw [hb] at hC; exact nomatch hC
                  | true =>
                    rw [hb] at hC
                    have e := Nat.eq_of_beq_eq_true hb
                    subst e
                    simp only [cond_true, List.mem_cons, List.not_mem_nil, or_false] at hC
                    rcases hC with rfl
                    · exact ko_141 ih
            | false =>
              rw [h12] at hC
              simp only [cond_false] at hC
              cases h14 : Nat.blt c 147 with
              | true =>
                rw [h14] at hC
                simp only [cond_true] at hC
                cases hb : Nat.beq c 146 with
                | false => rw [hb] at hC; exact nomatch hC
                | true =>
                  rw [hb] at hC
                  have e := Nat.eq_of_beq_eq_true hb
                  subst e
                  simp only [cond_true, List.mem_cons, List.not_mem_nil, or_false] at hC
                  rcases hC with rfl
                  · exact ko_142 ih
              | false =>
                rw [h14] at hC
                simp only [cond_false] at hC
                cases h16 : Nat.blt c 148 with
                | true =>
                  rw [h16] at hC
                  simp only [cond_true] at hC
                  cases hb : Nat.beq c 147 with
                  | false => rw [hb] at hC; exact nomatch hC
                  | true =>
                    rw [hb] at hC
                    have e := Nat.eq_of_beq_eq_true hb
                    subst e
                    simp only [cond_true, List.mem_cons, List.not_mem_nil, or_false] at hC
                    rcases hC with rfl
                    · exact ko_143 ih
                | false =>
                  rw [h16] at hC
                  simp only [cond_false] at hC
                  cases hb : Nat.beq c 148 with
                  | false => rw [hb] at hC; exact nomatch hC
                  | true =>
                    rw [hb] at hC
                    have e := Nat.eq_of_beq_eq_true hb
                    subst e
                    simp only [cond_true, List.mem_cons, List.not_mem_nil, or_false] at hC
                    rcases hC with rfl
                    · exact ko_144 ih
          | false =>
            rw [h10] at hC
            simp only [cond_false] at hC
            cases h12 : Nat.blt c 152 with
            | true =>
              rw [h12] at hC
              simp only [cond_true] at hC
              cases h14 : Nat.blt c 150 with
              | true =>
                rw [h14] at hC
                simp only [cond_true] at hC
                cases hb : Nat.beq c 149 with
                | false => rw [hb] at hC; exact nomatch hC
                | true =>
                  rw [hb] at hC
                  have e := Nat.eq_of_beq_eq_true hb
                  subst e
                  simp only [cond_true, List.mem_cons, List.not_mem_nil, or_false] at hC
                  rcases hC with rfl
                  · exact ko_145 ih
              | false =>
                rw [h14] at hC
                simp only [cond_false] at hC
                cases h16 : Nat.blt c 151 with
                | true =>
                  rw [h16] at hC
                  simp only [cond_true] at hC
                  cases hb : Nat.beq c 150 with
                  | false => rw [hb] at hC; exact nomatch hC
                  | true =>
                    rw [hb] at hC
                    have e := Nat.eq_of_beq_eq_true hb
                    subst e
                    simp only [cond_true, List.mem_cons, List.not_mem_nil, or_false] at hC
                    rcases hC with rfl
                    · exact ko_146 ih
                | false =>
                  rw [h16] at hC
                  simp only [cond_false] at hC
                  cases hb : Nat.beq c 151 with
                  | false => rw [hb] at hC; exact nomatch hC
                  | true =>
                    rw [hb] at hC
                    have e := Nat.eq_of_beq_eq_true hb
                    subst e
                    simp only [cond_true, List.mem_cons, List.not_mem_nil, or_false] at hC
                    rcases hC with rfl
                    · exact ko_147 ih
            | false =>
              rw [h12] at hC
              simp only [cond_false] at hC
              cases h14 : Nat.blt c 153 with
              | true =>
                rw [h14] at hC
                simp only [cond_true] at hC
                cases hb : Nat.beq c 152 with
                | false => rw [hb] at hC; exact nomatch hC
                | true =>
                  rw [hb] at hC
                  have e := Nat.eq_of_beq_eq_true hb
                  subst e
                  simp only [cond_true, List.mem_cons, List.not_mem_nil, or_false] at hC
                  rcases hC with rfl
                  · exact ko_148 ih
              | false =>
                rw [h14] at hC
                simp only [cond_false] at hC
                cases h16 : Nat.blt c 154 with
                | true =>
                  rw [h16] at hC
                  simp only [cond_true] at hC
                  cases hb : Nat.beq c 153 with
                  | false => rw [hb] at hC; exact nomatch hC
                  | true =>
                    rw [hb] at hC
                    have e := Nat.eq_of_beq_eq_true hb
                    subst e
                    simp only [cond_true, List.mem_cons, List.not_mem_nil, or_false] at hC
                    rcases hC with rfl
                    · exact ko_149 ih
                | false =>
                  rw [h16] at hC
                  simp only [cond_false] at hC
                  cases hb : Nat.beq c 154 with
                  | false => rw [hb] at hC; exact nomatch hC
                  | true =>
                    rw [hb] at hC
                    have e := Nat.eq_of_beq_eq_true hb
                    subst e
                    simp only [cond_true, List.mem_cons, List.not_mem_nil, or_false] at hC
                    rcases hC with rfl
                    · exact ko_150 ih
  | false =>
    rw [h2] at hC
    simp only [cond_false] at hC
    cases h4 : Nat.blt c 245 with
    | true =>
      rw [h4] at hC
      simp only [cond_true] at hC
      cases h6 : Nat.blt c 214 with
      | true =>
        rw [h6] at hC
        simp only [cond_true] at hC
        cases h8 : Nat.blt c 183 with
        | true =>
          rw [h8] at hC
          simp only [cond_true] at hC
          cases h10 : Nat.blt c 160 with
          | true =>
            rw [h10] at hC
            simp only [cond_true] at hC
            cases h12 : Nat.blt c 157 with
            | true =>
              rw [h12] at hC
              simp only [cond_true] at hC
              cases h14 : Nat.blt c 156 with
              | true =>
                rw [h14] at hC
                simp only [cond_true] at hC
                cases hb : Nat.beq c 155 with
                | false => rw [hb] at hC; exact nomatch hC
                | true =>
                  rw [hb] at hC
                  have e := Nat.eq_of_beq_eq_true hb
                  subst e
                  simp only [cond_true, List.mem_cons, List.not_mem_nil, or_false] at hC
                  rcases hC with rfl
                  · exact ko_151 ih
              | false =>
                rw [h14] at hC
                simp only [cond_false] at hC
                cases hb : Nat.beq c 156 with
                | false => rw [hb] at hC; exact nomatch hC
                | true =>
                  rw [hb] at hC
                  have e := Nat.eq_of_beq_eq_true hb
                  subst e
                  simp only [cond_true, List.mem_cons, List.not_mem_nil, or_false] at hC
                  rcases hC with rfl
                  · exact ko_152 ih
            | false =>
              rw [h12] at hC
              simp only [cond_false] at hC
              cases h14 : Nat.blt c 158 with
              | true =>
                rw [h14] at hC
                simp only [cond_true] at hC
                cases hb : Nat.beq c 157 with
                | false => rw [hb] at hC; exact nomatch hC
                | true =>
                  rw [hb] at hC
                  have e := Nat.eq_of_beq_eq_true hb
                  subst e
                  simp only [cond_true, List.mem_cons, List.not_mem_nil, or_false] at hC
                  rcases hC with rfl
                  · exact ko_153 ih
              | false =>
                rw [h14] at hC
                simp only [cond_false] at hC
                cases h16 : Nat.blt c 159 with
                | true =>
                  rw [h16] at hC
                  simp only [cond_true] at hC
                  cases hb : Nat.beq c 158 with
                  | false => rw [hb] at hC; exact nomatch hC
                  | true =>
                    rw [hb] at hC
                    have e := Nat.eq_of_beq_eq_true hb
                    subst e
                    simp only [cond_true, List.mem_cons, List.not_mem_nil, or_false] at hC
                    rcases hC with rfl
                    · exact ko_154 ih
                | false =>
                  rw [h16] at hC
                  simp only [cond_false] at hC
                  cases hb : Nat.beq c 159 with
                  | false => rw [hb] at hC; exact nomatch hC
                  | true =>
                    rw [hb] at hC
                    have e := Nat.eq_of_beq_eq_true hb
                    subst e
                    simp only [cond_true, List.mem_cons, List.not_mem_nil, or_false] at hC
                    rcases hC with rfl
                    · exact ko_155 ih
          | false =>
            rw [h10] at hC
            simp only [cond_false] at hC
            cases h12 : Nat.blt c 175 with
            | true =>
              rw [h12] at hC
              simp only [cond_true] at hC
              cases h14 : Nat.blt c 161 with
              | true =>
                rw [h14] at hC
                simp only [cond_true] at hC
                cases hb : Nat.beq c 160 with
                | false => rw [hb] at hC; exact nomatch hC
                | true =>
                  rw [hb] at hC
                  have e := Nat.eq_of_beq_eq_true hb
                  subst e
                  simp only [cond_true, List.mem_cons, List.not_mem_nil, or_false] at hC
                  rcases hC with rfl
                  · exact ko_156 ih
              | false =>
                rw [h14] at hC
                simp only [cond_false] at hC
                cases h16 : Nat.blt c 170 with
                | true =>
                  rw [h16] at hC
                  simp only [cond_true] at hC
                  cases hb : Nat.beq c 161 with
                  | false => rw [hb] at hC; exact nomatch hC
                  | true =>
                    rw [hb] at hC
                    have e := Nat.eq_of_beq_eq_true hb
                    subst e
                    simp only [cond_true, List.mem_cons, List.not_mem_nil, or_false] at hC
                    rcases hC with rfl
                    · exact ko_157 ih
                | false =>
                  rw [h16] at hC
                  simp only [cond_false] at hC
                  cases hb : Nat.beq c 170 with
                  | false => rw [hb] at hC; exact nomatch hC
                  | true =>
                    rw [hb] at hC
                    have e := Nat.eq_of_beq_eq_true hb
                    subst e
                    simp only [cond_true, List.mem_cons, List.not_mem_nil, or_false] at hC
                    rcases hC with rfl
                    · exact ko_103 ih
            | false =>
              rw [h12] at hC
              simp only [cond_false] at hC
              cases h14 : Nat.blt c 180 with
              | true =>
                rw [h14] at hC
                simp only [cond_true] at hC
                cases hb : Nat.beq c 175 with
                | false => rw [hb] at hC; exact nomatch hC
                | true =>
                  rw [hb] at hC
                  have e := Nat.eq_of_beq_eq_true hb
                  subst e
                  simp only [cond_true, List.mem_cons, List.not_mem_nil, or_false] at hC
                  rcases hC with rfl
                  · exact ko_105 ih
              | false =>
                rw [h14] at hC
                simp only [cond_false] at hC
                cases h16 : Nat.blt c 181 with
                | true =>
                  rw [h16] at hC
                  simp only [cond_true] at hC
                  cases hb : Nat.beq c 180 with
                  | false => rw [hb] at hC; exact nomatch hC
                  | true =>
                    rw [hb] at hC
                    have e := Nat.eq_of_beq_eq_true hb
                    subst e
                    simp only [cond_true, List.mem_cons, List.not_mem_nil, or_false] at hC
                    rcases hC with rfl
                    · exact ko_104 ih
                | false =>
                  rw [h16] at hC
                  simp only [cond_false] at hC
                  cases hb : Nat.beq c 181 with
                  | false => rw [hb] at hC; exact nomatch hC
                  | true =>
                    rw [hb] at hC
                    have e := Nat.eq_of_beq_eq_true hb
                    subst e
                    simp only [cond_true, List.mem_cons, List.not_mem_nil, or_false] at hC
                    rcases hC with rfl
                    · exact ko_106 ih
        | false =>
          rw [h8] at hC
          simp only [cond_false] at hC
          cases h10 : Nat.blt c 206 with
          | true =>
            rw [h10] at hC
            simp only [cond_true] at hC
            cases h12 : Nat.blt c 195 with
            | true =>
              rw [h12] at hC
              simp only [cond_true] at hC
              cases h14 : Nat.blt c 184 with
              | true =>
                rw [h14] at hC
                simp only [cond_true] at hC
                cases hb : Nat.beq c 183 with
                | false => rw [hb] at hC; exact nomatch hC
                | true =>
                  rw [hb] at hC
                  have e := Nat.eq_of_beq_eq_true hb
                  subst e
                  simp only [cond_true, List.mem_cons, List.not_mem_nil, or_false] at hC
                  rcases hC with rfl
                  · exact ko_107 ih
              | false =>
                rw [h14] at hC
                simp only [cond_false] at hC
                cases hb : Nat.beq c 184 with
                | false => rw [hb] at hC; exact nomatch hC
                | true =>
                  rw [hb] at hC
                  have e := Nat.eq_of_beq_eq_true hb
                  subst e
                  simp only [cond_true, List.mem_cons, List.not_mem_nil, or_false] at hC
                  rcases hC with rfl
                  · exact ko_108 ih
            | false =>
              rw [h12] at hC
              simp only [cond_false] at hC
              cases h14 : Nat.blt c 196 with
              | true =>
                rw [h14] at hC
                simp only [cond_true] at hC
                cases hb : Nat.beq c 195 with
                | false => rw [hb] at hC; exact nomatch hC
                | true =>
                  rw [hb] at hC
                  have e := Nat.eq_of_beq_eq_true hb
                  subst e
                  simp only [cond_true, List.mem_cons, List.not_mem_nil, or_false] at hC
                  rcases hC with rfl
                  · exact ko_158 ih
              | false =>
                rw [h14] at hC
                simp only [cond_false] at hC
                cases h16 : Nat.blt c 205 with
                | true =>
                  rw [h16] at hC
                  simp only [cond_true] at hC
                  cases hb : Nat.beq c 196 with
                  | false => rw [hb] at hC; exact nomatch hC
                  | true =>
                    rw [hb] at hC
                    have e := Nat.eq_of_beq_eq_true hb
                    subst e
                    simp only [cond_true, List.mem_cons, List.not_mem_nil, or_false] at hC
                    rcases hC with rfl
                    · exact ko_279 ih
                | false =>
                  rw [h16] at hC
                  simp only [cond_false] at hC
                  cases hb : Nat.beq c 205 with
                  | false => rw [hb] at hC; exact nomatch hC
                  | true =>
                    rw [hb] at hC
                    have e := Nat.eq_of_beq_eq_true hb
                    subst e
                    simp only [cond_true, List.mem_cons, List.not_mem_nil, or_false] at hC
                    rcases hC with rfl
                    · exact ko_159 ih
          | false =>
            rw [h10] at hC
            simp only [cond_false] at hC
            cases h12 : Nat.blt c 210 with
            | true =>
              rw [h12] at hC
              simp only [cond_true] at hC
              cases h14 : Nat.blt c 208 with
              | true =>
                rw [h14] at hC
                simp only [cond_true] at hC
                cases hb : Nat.beq c 206 with
                | false => rw [hb] at hC; exact nomatch hC
                | true =>
                  rw [hb] at hC
                  have e := Nat.eq_of_beq_eq_true hb
                  subst e
                  simp only [cond_true, List.mem_cons, List.not_mem_nil, or_false] at hC
                  rcases hC with rfl
                  · exact ko_160 ih
              | false =>
                rw [h14] at hC
                simp only [cond_false] at hC
                cases h16 : Nat.blt c 209 with
                | true =>
                  rw [h16] at hC
                  simp only [cond_true] at hC
                  cases hb : Nat.beq c 208 with
                  | false => rw [hb] at hC; exact nomatch hC
                  | true =>
                    rw [hb] at hC
                    have e := Nat.eq_of_beq_eq_true hb
                    subst e
                    simp only [cond_true, List.mem_cons, List.not_mem_nil, or_false] at hC
                    rcases hC with rfl | rfl | rfl | rfl | rfl | rfl | rfl | rfl | rfl | rfl
                    · exact ko_226 ih
                    · exact ko_227 ih
                    · exact ko_228 ih
                    · exact ko_229 ih
                    · exact ko_230 ih
                    · exact ko_231 ih
                    · exact ko_232 ih
                    · exact ko_233 ih
                    · exact ko_234 ih
                    · exact ko_235 ih
                | false =>
                  rw [h16] at hC
                  simp only [cond_false] at hC
                  cases hb : Nat.beq c 209 with
                  | false => rw [hb] at hC; exact nomatch hC
                  | true =>
                    rw [hb] at hC
                    have e := Nat.eq_of_beq_eq_true hb
                    subst e
                    simp only [cond_true, List.mem_cons, List.not_mem_nil, or_false] at hC
                    rcases hC with rfl | rfl | rfl | rfl | rfl | rfl | rfl | rfl | rfl | rfl
                    · exact ko_216 ih
                    · exact ko_217 ih
                    · exact ko_218 ih
                    · exact ko_219 ih
                    · exact ko_220 ih
                    · exact ko_221 ih
                    · exact ko_222 ih
                    · exact ko_223 ih
                    · exact ko_224 ih
                    · exact ko_225 ih
            | false =>
              rw [h12] at hC
              simp only [cond_false] at hC
              cases h14 : Nat.blt c 211 with
              | true =>
                rw [h14] at hC
                simp only [cond_true] at hC
                cases hb : Nat.beq c 210 with
                | false => rw [hb] at hC; exact nomatch hC
                | true =>
                  rw [hb] at hC
                  have e := Nat.eq_of_beq_eq_true hb
                  subst e
                  simp only [cond_true, List.mem_cons, List.not_mem_nil, or_false] at hC
                  rcases hC with rfl | rfl | rfl | rfl | rfl | rfl | rfl | rfl | rfl | rfl
                  · exact ko_206 ih
                  · exact ko_207 ih
                  · exact ko_208 ih
                  · exact ko_209 ih
                  · exact ko_210 ih
                  · exact ko_211 ih
                  · exact ko_212 ih
                  · exact ko_213 ih
                  · exact ko_214 ih
                  · exact ko_215 ih
              | false =>
                rw [h14] at hC
                simp only [cond_false] at hC
                cases h16 : Nat.blt c 212 with
                | true =>
                  rw [h16] at hC
                  simp only [cond_true] at hC
                  cases hb : Nat.beq c 211 with
                  | false => rw [hb] at hC; exact nomatch hC
                  | true =>
                    rw [hb] at hC
                    have e := Nat.eq_of_beq_eq_true hb
                    subst e
                    simp only [cond_true, List.mem_cons, List.not_mem_nil, or_false] at hC
                    rcases hC with rfl | rfl | rfl | rfl | rfl | rfl | rfl | rfl | rfl | rfl
                    · exact ko_196 ih
                    · exact ko_197 ih
                    · exact ko_198 ih
                    · exact ko_199 ih
                    · exact ko_200 ih
                    · exact ko_201 ih
                    · exact ko_202 ih
                    · exact ko_203 ih
                    · exact ko_204 ih
                    · exact ko_205 ih
                | false =>
                  rw [h16] at hC
                  simp only [cond_false] at hC
                  cases hb : Nat.beq c 212 with
                  | false => rw [hb] at hC; exact nomatch hC
                  | true =>
                    rw [hb] at hC
                    have e := Nat.eq_of_beq_eq_true hb
                    subst e
                    simp only [cond_true, List.mem_cons, List.not_mem_nil, or_false] at hC
                    rcases hC with rfl
                    · exact ko_236 ih
      | false =>
        rw [h6] at hC
        simp only [cond_false] at hC
        cases h8 : Nat.blt c 232 with
        | true =>
          rw [h8] at hC
          simp only [cond_true] at hC
          cases h10 : Nat.blt c 221 with
          | true =>
            rw [h10] at hC
            simp only [cond_true] at hC
            cases h12 : Nat.blt c 218 with
            | true =>
              rw [h12] at hC
              simp only [cond_true] at hC
              cases h14 : Nat.blt c 217 with
              | true =>
                rw [h14] at hC
                simp only [cond_true] at hC
                cases hb : Nat.beq c 214 with
                | false => rw [hb] at hC; exact nomatch hC
                | true =>
                  rw [hb] at hC
                  have e := Nat.eq_of_beq_eq_true hb
                  subst e
                  simp only [cond_true, List.mem_cons, List.not_mem_nil, or_false] at hC
                  rcases hC with rfl
                  · exact ko_237 ih
              | false =>
                rw [h14] at hC
                simp only [cond_false] at hC
                cases hb : Nat.beq c 217 with
                | false => rw [hb] at hC; exact nomatch hC
                | true =>
                  rw [hb] at hC
                  have e := Nat.eq_of_beq_eq_true hb
                  subst e
                  simp only [cond_true, List.mem_cons, List.not_mem_nil, or_false] at hC
                  rcases hC with rfl
                  · exact ko_162 ih
            | false =>
              rw [h12] at hC
              simp only [cond_false] at hC
              cases h14 : Nat.blt c 219 with
              | true =>
                rw [h14] at hC
                simp only [cond_true] at hC
                cases hb : Nat.beq c 218 with
                | false => rw [hb] at hC; exact nomatch hC
                | true =>
                  rw [hb] at hC
                  have e := Nat.eq_of_beq_eq_true hb
                  subst e
                  simp only [cond_true, List.mem_cons, List.not_mem_nil, or_false] at hC
                  rcases hC with rfl
                  · exact ko_280 ih
              | false =>
                rw [h14] at hC
                simp only [cond_false] at hC
                cases h16 : Nat.blt c 220 with
                | true =>
                  rw [h16] at hC
                  simp only [cond_true] at hC
                  cases hb : Nat.beq c 219 with
                  | false => rw [hb] at hC; exact nomatch hC
                  | true =>
                    rw [hb] at hC
                    have e := Nat.eq_of_beq_eq_true hb
                    subst e
                    simp only [cond_true, List.mem_cons, List.not_mem_nil, or_false] at hC
                    rcases hC with rfl
                    · exact ko_281 ih
                | false =>
                  rw [h16] at hC
                  simp only [cond_false] at hC
                  cases hb : Nat.beq c 220 with
                  | false => rw [hb] at hC; exact nomatch hC
                  | true =>
                    rw [hb] at hC
                    have e := Nat.eq_of_beq_eq_true hb
                    subst e
                    simp only [cond_true, List.mem_cons, List.not_mem_nil, or_false] at hC
                    rcases hC with rfl
                    · exact ko_282 ih
          | false =>
            rw [h10] at hC
            simp only [cond_false] at hC
            cases h12 : Nat.blt c 228 with
            | true =>
              rw [h12] at hC
              simp only [cond_true] at hC
              cases h14 : Nat.blt c 222 with
              | true =>
                rw [h14] at hC
                simp only [cond_true] at hC
                cases hb : Nat.beq c 221 with
                | false => rw [hb] at hC; exact nomatch hC
                | true =>
                  rw [hb] at hC
                  have e := Nat.eq_of_beq_eq_true hb
                  subst e
                  simp only [cond_true, List.mem_cons, List.not_mem_nil, or_false] at hC
                  rcases hC with rfl
                  · exact ko_283 ih
              | false =>
                rw [h14] at hC
                simp only [cond_false] at hC
                cases h16 : Nat.blt c 223 with
                | true =>
                  rw [h16] at hC
                  simp only [cond_true] at hC
                  cases hb : Nat.beq c 222 with
                  | false => rw [hb] at hC; exact nomatch hC
                  | true =>
                    rw [hb] at hC
                    have e := Nat.eq_of_beq_eq_true hb
                    subst e
                    simp only [cond_true, List.mem_cons, List.not_mem_nil, or_false] at hC
                    rcases hC with rfl
                    · exact ko_284 ih
                | false =>
                  rw [h16] at hC
                  simp only [cond_false] at hC
                  cases hb : Nat.beq c 223 with
                  | false => rw [hb] at hC; exact nomatch hC
                  | true =>
                    rw [hb] at hC
                    have e := Nat.eq_of_beq_eq_true hb
                    subst e
                    simp only [cond_true, List.mem_cons, List.not_mem_nil, or_false] at hC
                    rcases hC with rfl
                    · exact ko_163 ih
            | false =>
              rw [h12] at hC
              simp only [cond_false] at hC
              cases h14 : Nat.blt c 229 with
              | true =>
                rw [h14] at hC
                simp only [cond_true] at hC
                cases hb : Nat.beq c 228 with
                | false => rw [hb] at hC; exact nomatch hC
                | true =>
                  rw [hb] at hC
                  have e := Nat.eq_of_beq_eq_true hb
                  subst e
                  simp only [cond_true, List.mem_cons, List.not_mem_nil, or_false] at hC
                  rcases hC with rfl | rfl | rfl
                  · exact ko_164 ih
                  · exact ko_165 ih
                  · exact ko_166 ih
              | false =>
                rw [h14] at hC
                simp only [cond_false] at hC
                cases h16 : Nat.blt c 231 with
                | true =>
                  rw [h16] at hC
                  simp only [cond_true] at hC
                  cases hb : Nat.beq c 229 with
                  | false => rw [hb] at hC; exact nomatch hC
                  | true =>
                    rw [hb] at hC
                    have e := Nat.eq_of_beq_eq_true hb
                    subst e
                    simp only [cond_true, List.mem_cons, List.not_mem_nil, or_false] at hC
                    rcases hC with rfl | rfl
                    · exact ko_167 ih
                    · exact ko_168 ih
                | false =>
                  rw [h16] at hC
                  simp only [cond_false] at hC
                  cases hb : Nat.beq c 231 with
                  | false => rw [hb] at hC; exact nomatch hC
                  | true =>
                    rw [hb] at hC
                    have e := Nat.eq_of_beq_eq_true hb
                    subst e
                    simp only [cond_true, List.mem_cons, List.not_mem_nil, or_false] at hC
                    rcases hC with rfl
                    · exact ko_285 ih
        | false =>
          rw [h8] at hC
          simp only [cond_false] at hC
          cases h10 : Nat.blt c 239 with
          | true =>
            rw [h10] at hC
            simp only [cond_true] at hC
            cases h12 : Nat.blt c 236 with
            | true =>
              rw [h12] at hC
              simp only [cond_true] at hC
              cases h14 : Nat.blt c 234 with
              | true =>
                rw [h14] at hC
                simp only [cond_true] at hC
                cases hb : Nat.beq c 232 with
                | false => rw [hb] at hC; exact nomatch hC
                | true =>
                  rw [hb] at hC
                  have e := Nat.eq_of_beq_eq_true hb
                  subst e
                  simp only [cond_true, List.mem_cons, List.not_mem_nil, or_false] at hC
                  rcases hC with rfl
                  · exact ko_286 ih
              | false =>
                rw [h14] at hC
                simp only [cond_false] at hC
                cases h16 : Nat.blt c 235 with
                | true =>
                  rw [h16] at hC
                  simp only [cond_true] at hC
                  cases hb : Nat.beq c 234 with
                  | false => rw [hb] at hC; exact nomatch hC
                  | true =>
                    rw [hb] at hC
                    have e := Nat.eq_of_beq_eq_true hb
                    subst e
                    simp only [cond_true, List.mem_cons, List.not_mem_nil, or_false] at hC
                    rcases hC with rfl
                    · exact ko_287 ih
                | false =>
                  rw [h16] at hC
                  simp only [cond_false] at hC
                  cases hb : Nat.beq c 235 with
                  | false => rw [hb] at hC; exact nomatch hC
                  | true =>
                    rw [hb] at hC
                    have e := Nat.eq_of_beq_eq_true hb
                    subst e
                    simp only [cond_true, List.mem_cons, List.not_mem_nil, or_false] at hC
                    rcases hC with rfl | rfl
                    · exact ko_238 ih
                    · exact ko_239 ih
            | false =>
              rw [h12] at hC
              simp only [cond_false] at hC
              cases h14 : Nat.blt c 237 with
              | true =>
                rw [h14] at hC
                simp only [cond_true] at hC
                cases hb : Nat.beq c 236 with
                | false => rw [hb] at hC; exact nomatch hC
                | true =>
                  rw [hb] at hC
                  have e := Nat.eq_of_beq_eq_true hb
                  subst e
                  simp only [cond_true, List.mem_cons, List.not_mem_nil, or_false] at hC
                  rcases hC with rfl
                  · exact ko_288 ih
              | false =>
                rw [h14] at hC
                simp only [cond_false] at hC
                cases h16 : Nat.blt c 238 with
                | true =>
                  rw [h16] at hC
                  simp only [cond_true] at hC
                  cases hb : Nat.beq c 237 with
                  | false => rw [hb] at hC; exact nomatch hC
                  | true =>
                    rw [hb] at hC
                    have e := Nat.eq_of_beq_eq_true hb
                    subst e
                    simp only [cond_true, List.mem_cons, List.not_mem_nil, or_false] at hC
                    rcases hC with rfl
                    · exact ko_240 ih
                | false =>
                  rw [h16] at hC
                  simp only [cond_false] at hC
                  cases hb : Nat.beq c 238 with
                  | false => rw [hb] at hC; exact nomatch hC
                  | true =>
                    rw [hb] at hC
                    have e := Nat.eq_of_beq_eq_true hb
                    subst e
                    simp only [cond_true, List.mem_cons, List.not_mem_nil, or_false] at hC
                    rcases hC with rfl
                    · exact ko_243 ih
          | false =>
            rw [h10] at hC
            simp only [cond_false] at hC
            cases h12 : Nat.blt c 242 with
            | true =>
              rw [h12] at hC
              simp only [cond_true] at hC
              cases h14 : Nat.blt c 240 with
              | true =>
                rw [h14] at hC
                simp only [cond_true] at hC
                cases hb : Nat.beq c 239 with
                | false => rw [hb] at hC; exact nomatch hC
                | true =>
                  rw [hb] at hC
                  have e := Nat.eq_of_beq_eq_true hb
                  subst e
                  simp only [cond_true, List.mem_cons, List.not_mem_nil, or_false] at hC
                  rcases hC with rfl
                  · exact ko_241 ih
              | false =>
                rw [h14] at hC
                simp only [cond_false] at hC
                cases h16 : Nat.blt c 241 with
                | true =>
                  rw [h16] at hC
                  simp only [cond_true] at hC
                  cases hb : Nat.beq c 240 with
                  | false => rw [hb] at hC; exact nomatch hC
                  | true =>
                    rw [hb] at hC
                    have e := Nat.eq_of_beq_eq_true hb
                    subst e
                    simp only [cond_true, List.mem_cons, List.not_mem_nil, or_false] at hC
                    rcases hC with rfl
                    · exact ko_242 ih
                | false =>
                  rw [h16] at hC
                  simp only [cond_false] at hC
                  cases hb : Nat.beq c 241 with
                  | false => rw [hb] at hC; exact nomatch hC
                  | true =>
                    rw [hb] at hC
                    have e := Nat.eq_of_beq_eq_true hb
                    subst e
                    simp only [cond_true, List.mem_cons, List.not_mem_nil, or_false] at hC
                    rcases hC with rfl
                    · exact ko_169 ih
            | false =>
              rw [h12] at hC
              simp only [cond_false] at hC
              cases h14 : Nat.blt c 243 with
              | true =>
                rw [h14] at hC
                simp only [cond_true] at hC
                cases hb : Nat.beq c 242 with
                | false => rw [hb] at hC; exact nomatch hC
                | true =>
                  rw [hb] at hC
                  have e := Nat.eq_of_beq_eq_true hb
                  subst e
                  simp only [cond_true, List.mem_cons, List.not_mem_nil, or_false] at hC
                  rcases hC with rfl
                  · exact ko_289 ih
              | false =>
                rw [h14] at hC
                simp only [cond_false] at hC
                cases h16 : Nat.blt c 244 with
                | true =>
                  rw [h16] at hC
                  simp only [cond_true] at hC
                  cases hb : Nat.beq c 243 with
                  | false => rw [hb] at hC; exact nomatch hC
                  | true =>
                    rw [hb] at hC
                    have e := Nat.eq_of_beq_eq_true hb
                    subst e
                    simp only [cond_true, List.mem_cons, List.not_mem_nil, or_false] at hC
                    rcases hC with rfl
                    · exact ko_171 ih
                | false =>
                  rw [h16] at hC
                  simp only [cond_false] at hC
                  cases hb : Nat.beq c 244 with
                  | false => rw [hb] at hC; exact nomatch hC
                  | true =>
                    rw [hb] at hC
                    have e := Nat.eq_of_beq_eq_true hb
                    subst e
                    simp only [cond_true, List.mem_cons, List.not_mem_nil, or_false] at hC
                    rcases hC with rfl
                    · exact ko_290 ih
    | false =>
      rw [h4] at hC
      simp only [cond_false] at hC
      cases h6 : Nat.blt c 271 with
      | true =>
        rw [h6] at hC
        simp only [cond_true] at hC
        cases h8 : Nat.blt c 258 with
        | true =>
          rw [h8] at hC
          simp only [cond_true] at hC
          cases h10 : Nat.blt c 250 with
          | true =>
            rw [h10] at hC
            simp only [cond_true] at hC
            cases h12 : Nat.blt c 247 with
            | true =>
              rw [h12] at hC
              simp only [cond_true] at hC
              cases h14 : Nat.blt c 246 with
              | true =>
                rw [h14] at hC
                simp only [cond_true] at hC
                cases hb : Nat.beq c 245 with
                | false => rw [hb] at hC; exact nomatch hC
                | true =>
                  rw [hb] at hC
                  have e := Nat.eq_of_beq_eq_true hb
                  subst e
                  simp only [cond_true, List.mem_cons, List.not_mem_nil, or_false] at hC
                  rcases hC with rfl
                  · exact ko_173 ih
              | false =>
                rw [h14] at hC
                simp only [cond_false] at hC
                cases hb : Nat.beq c 246 with
                | false => rw [hb] at hC; exact nomatch hC
                | true =>
                  rw [hb] at hC
                  have e := Nat.eq_of_beq_eq_true hb
                  subst e
                  simp only [cond_true, List.mem_cons, List.not_mem_nil, or_false] at hC
                  rcases hC with rfl | rfl | rfl | rfl | rfl | rfl | rfl | rfl | rfl | rfl | rfl | rfl | rfl | rfl | rfl | rfl | rfl | rfl | rfl | rfl | rfl | rfl
                  · exact ko_174 ih
                  · exact ko_175 ih
                  · exact ko_176 ih
                  · exact ko_177 ih
                  · exact ko_178 ih
                  · exact ko_179 ih
                  · exact ko_180 ih
                  · exact ko_181 ih
                  · exact ko_182 ih
                  · exact ko_183 ih
                  · exact ko_184 ih
                  · exact ko_185 ih
                  · exact ko_186 ih
                  · exact ko_187 ih
                  · exact ko_188 ih
                  · exact ko_189 ih
                  · exact ko_190 ih
                  · exact ko_191 ih
                  · exact ko_192 ih
                  · exact ko_193 ih
                  · exact ko_194 ih
                  · exact ko_195 ih
            | false =>
              rw [h12] at hC
              simp only [cond_false] at hC
              cases h14 : Nat.blt c 248 with
              | true =>
                rw [h14] at hC
                simp only [cond_true] at hC
                cases hb : Nat.beq c 247 with
                | false => rw [hb] at hC; exact nomatch hC
                | true =>
                  rw [hb] at hC
                  have e := Nat.eq_of_beq_eq_true hb
                  subst e
                  simp only [cond_true, List.mem_cons, List.not_mem_nil, or_false] at hC
                  rcases hC with rfl
                  · exact ko_291 ih
              | false =>
                rw [h14] at hC
                simp only [cond_false] at hC
                cases h16 : Nat.blt c 249 with
                | true =>
                  rw [h16] at hC
                  simp only [cond_true] at hC
                  cases hb : Nat.beq c 248 with
                  | false => rw [hb] at hC; exact nomatch hC
                  | true =>
                    rw [hb] at hC
                    have e := Nat.eq_of_beq_eq_true hb
                    subst e
                    simp only [cond_true, List.mem_cons, List.not_mem_nil, or_false] at hC
                    rcases hC with rfl
                    · exact ko_292 ih
                | false =>
                  rw [h16] at hC
                  simp only [cond_false] at hC
                  cases hb : Nat.beq c 249 with
                  | false => rw [hb] at hC; exact nomatch hC
                  | true =>
                    rw [hb] at hC
                    have e := Nat.eq_of_beq_eq_true hb
                    subst e
                    simp only [cond_true, List.mem_cons, List.not_mem_nil, or_false] at hC
                    rcases hC with rfl
                    · exact ko_293 ih
          | false =>
            rw [h10] at hC
            simp only [cond_false] at hC
            cases h12 : Nat.blt c 254 with
            | true =>
              rw [h12] at hC
              simp only [cond_true] at hC
              cases h14 : Nat.blt c 251 with
              | true =>
                rw [h14] at hC
                simp only [cond_true] at hC
                cases hb : Nat.beq c 250 with
                | false => rw [hb] at hC; exact nomatch hC
                | true =>
                  rw [hb] at hC
                  have e := Nat.eq_of_beq_eq_true hb
                  subst e
                  simp only [cond_true, List.mem_cons, List.not_mem_nil, or_false] at hC
                  rcases hC with rfl
                  · exact ko_294 ih
              | false =>
                rw [h14] at hC
                simp only [cond_false] at hC
                cases h16 : Nat.blt c 253 with
                | true =>
                  rw [h16] at hC
                  simp only [cond_true] at hC
                  cases hb : Nat.beq c 251 with
                  | false => rw [hb] at hC; exact nomatch hC
                  | true =>
                    rw [hb] at hC
                    have e := Nat.eq_of_beq_eq_true hb
                    subst e
                    simp only [cond_true, List.mem_cons, List.not_mem_nil, or_false] at hC
                    rcases hC with rfl
                    · exact ko_295 ih
                | false =>
                  rw [h16] at hC
                  simp only [cond_false] at hC
                  cases hb : Nat.beq c 253 with
                  | false => rw [hb] at hC; exact nomatch hC
                  | true =>
                    rw [hb] at hC
                    have e := Nat.eq_of_beq_eq_true hb
                    subst e
                    simp only [cond_true, List.mem_cons, List.not_mem_nil, or_false] at hC
                    rcases hC with rfl
                    · exact ko_296 ih
            | false =>
              rw [h12] at hC
              simp only [cond_false] at hC
              cases h14 : Nat.blt c 255 with
              | true =>
                rw [h14] at hC
                simp only [cond_true] at hC
                cases hb : Nat.beq c 254 with
                | false => rw [hb] at hC; exact nomatch hC
                | true =>
                  rw [hb] at hC
                  have e := Nat.eq_of_beq_eq_true hb
                  subst e
                  simp only [cond_true, List.mem_cons, List.not_mem_nil, or_false] at hC
                  rcases hC with rfl
                  · exact ko_297 ih
              | false =>
                rw [h14] at hC
                simp only [cond_false] at hC
                cases h16 : Nat.blt c 257 with
                | true =>
                  rw [h16] at hC
                  simp only [cond_true] at hC
                  cases hb : Nat.beq c 255 with
                  | false => rw [hb] at hC; exact nomatch hC
                  | true =>
                    rw [hb] at hC
                    have e := Nat.eq_of_beq_eq_true hb
                    subst e
                    simp only [cond_true, List.mem_cons, List.not_mem_nil, or_false] at hC
                    rcases hC with rfl
                    · exact ko_298 ih
                | false =>
                  rw [h16] at hC
                  simp only [cond_false] at hC
                  cases hb : Nat.beq c 257 with
                  | false => rw [hb] at hC; exact nomatch hC
                  | true =>
                    rw [hb] at hC
                    have e := Nat.eq_of_beq_eq_true hb
                    subst e
                    simp only [cond_true, List.mem_cons, List.not_mem_nil, or_false] at hC
                    rcases hC with rfl
                    · exact ko_244 ih
        | false =>
          rw [h8] at hC
          simp only [cond_false] at hC
          cases h10 : Nat.blt c 264 with
          | true =>
            rw [h10] at hC
            simp only [cond_true] at hC
            cases h12 : Nat.blt c 260 with
            | true =>
              rw [h12] at hC
              simp only [cond_true] at hC
              cases h14 : Nat.blt c 259 with
              | true =>
                rw [h14] at hC
                simp only [cond_true] at hC
                cases hb : Nat.beq c 258 with
                | false => rw [hb] at hC; exact nomatch hC
                | true =>
                  rw [hb] at hC
                  have e := Nat.eq_of_beq_eq_true hb
                  subst e
                  simp only [cond_true, List.mem_cons, List.not_mem_nil, or_false] at hC
                  rcases hC with rfl
                  · exact ko_299 ih
              | false =>
                rw [h14] at hC
                simp only [cond_false] at hC
                cases hb : Nat.beq c 259 with
                | false => rw [hb] at hC; exact nomatch hC
                | true =>
                  rw [hb] at hC
                  have e := Nat.eq_of_beq_eq_true hb
                  subst e
                  simp only [cond_true, List.mem_cons, List.not_mem_nil, or_false] at hC
                  rcases hC with rfl
                  · exact ko_300 ih
            | false =>
              rw [h12] at hC
              simp only [cond_false] at hC
              cases h14 : Nat.blt c 262 with
              | true =>
                rw [h14] at hC
                simp only [cond_true] at hC
                cases hb : Nat.beq c 260 with
                | false => rw [hb] at hC; exact nomatch hC
                | true =>
                  rw [hb] at hC
                  have e := Nat.eq_of_beq_eq_true hb
                  subst e
                  simp only [cond_true, List.mem_cons, List.not_mem_nil, or_false] at hC
                  rcases hC with rfl
                  · exact ko_301 ih
              | false =>
                rw [h14] at hC
                simp only [cond_false] at hC
                cases h16 : Nat.blt c 263 with
                | true =>
                  rw [h16] at hC
                  simp only [cond_true] at hC
                  cases hb : Nat.beq c 262 with
                  | false => rw [hb] at hC; exact nomatch hC
                  | true =>
                    rw [hb] at hC
                    have e := Nat.eq_of_beq_eq_true hb
                    subst e
                    simp only [cond_true, List.mem_cons, List.not_mem_nil, or_false] at hC
                    rcases hC with rfl
                    · exact ko_302 ih
                | false =>
                  rw [h16] at hC
                  simp only [cond_false] at hC
                  cases hb : Nat.beq c 263 with
                  | false => rw [hb] at hC; exact nomatch hC
                  | true =>
                    rw [hb] at hC
                    have e := Nat.eq_of_beq_eq_true hb
                    subst e
                    simp only [cond_true, List.mem_cons, List.not_mem_nil, or_false] at hC
                    rcases hC with rfl | rfl | rfl | rfl | rfl | rfl | rfl
                    · exact ko_255 ih
                    · exact ko_256 ih
                    · exact ko_257 ih
                    · exact ko_258 ih
                    · exact ko_259 ih
                    · exact ko_260 ih
                    · exact ko_261 ih
          | false =>
            rw [h10] at hC
            simp only [cond_false] at hC
            cases h12 : Nat.blt c 267 with
            | true =>
              rw [h12] at hC
              simp only [cond_true] at hC
              cases h14 : Nat.blt c 265 with
              | true =>
                rw [h14] at hC
                simp only [cond_true] at hC
                cases hb : Nat.beq c 264 with
                | false => rw [hb] at hC; exact nomatch hC
                | true =>
                  rw [hb] at hC
                  have e := Nat.eq_of_beq_eq_true hb
                  subst e
                  simp only [cond_true, List.mem_cons, List.not_mem_nil, or_false] at hC
                  rcases hC with rfl
                  · exact ko_303 ih
              | false =>
                rw [h14] at hC
                simp only [cond_false] at hC
                cases h16 : Nat.blt c 266 with
                | true =>
                  rw [h16] at hC
                  simp only [cond_true] at hC
                  cases hb : Nat.beq c 265 with
                  | false => rw [hb] at hC; exact nomatch hC
                  | true =>
                    rw [hb] at hC
                    have e := Nat.eq_of_beq_eq_true hb
                    subst e
                    simp only [cond_true, List.mem_cons, List.not_mem_nil, or_false] at hC
                    rcases hC with rfl
                    · exact ko_262 ih
                | false =>
                  rw [h16] at hC
                  simp only [cond_false] at hC
                  cases hb : Nat.beq c 266 with
                  | false => rw [hb] at hC; exact nomatch hC
                  | true =>
                    rw [hb] at hC
                    have e := Nat.eq_of_beq_eq_true hb
                    subst e
                    simp only [cond_true, List.mem_cons, List.not_mem_nil, or_false] at hC
                    rcases hC with rfl
                    · exact ko_304 ih
            | false =>
              rw [h12] at hC
              simp only [cond_false] at hC
              cases h14 : Nat.blt c 268 with
              | true =>
                rw [h14] at hC
                simp only [cond_true] at hC
                cases hb : Nat.beq c 267 with
                | false => rw [hb] at hC; exact nomatch hC
                | true =>
                  rw [hb] at hC
                  have e := Nat.eq_of_beq_eq_true hb
                  subst e
                  simp only [cond_true, List.mem_cons, List.not_mem_nil, or_false] at hC
                  rcases hC with rfl
                  · exact ko_246 ih
              | false =>
                rw [h14] at hC
                simp only [cond_false] at hC
                cases h16 : Nat.blt c 270 with
                | true =>
                  rw [h16] at hC
                  simp only [cond_true] at hC
                  cases hb : Nat.beq c 268 with
                  | false => rw [hb] at hC; exact nomatch hC
                  | true =>
                    rw [hb] at hC
                    have e := Nat.eq_of_beq_eq_true hb
                    subst e
                    simp only [cond_true, List.mem_cons, List.not_mem_nil, or_false] at hC
                    rcases hC with rfl
                    · exact ko_245 ih
                | false =>
                  rw [h16] at hC
                  simp only [cond_false] at hC
                  cases hb : Nat.beq c 270 with
                  | false => rw [hb] at hC; exact nomatch hC
                  | true =>
                    rw [hb] at hC
                    have e := Nat.eq_of_beq_eq_true hb
                    subst e
                    simp only [cond_true, List.mem_cons, List.not_mem_nil, or_false] at hC
                    rcases hC with rfl
                    · exact hk_247
      | false =>
        rw [h6] at hC
        simp only [cond_false] at hC
        cases h8 : Nat.blt c 282 with
        | true =>
          rw [h8] at hC
          simp only [cond_true] at hC
          cases h10 : Nat.blt c 276 with
          | true =>
            rw [h10] at hC
            simp only [cond_true] at hC
            cases h12 : Nat.blt c 273 with
            | true =>
              rw [h12] at hC
              simp only [cond_true] at hC
              cases h14 : Nat.blt c 272 with
              | true =>
                rw [h14] at hC
                simp only [cond_true] at hC
                cases hb : Nat.beq c 271 with
                | false => rw [hb] at hC; exact nomatch hC
                | true =>
                  rw [hb] at hC
                  have e := Nat.eq_of_beq_eq_true hb
                  subst e
                  simp only [cond_true, List.mem_cons, List.not_mem_nil, or_false] at hC
                  rcases hC with rfl
                  · exact ko_305 ih
              | false =>
                rw [h14] at hC
                simp only [cond_false] at hC
                cases hb : Nat.beq c 272 with
                | false => rw [hb] at hC; exact nomatch hC
                | true =>
                  rw [hb] at hC
                  have e := Nat.eq_of_beq_eq_true hb
                  subst e
                  simp only [cond_true, List.mem_cons, List.not_mem_nil, or_false] at hC
                  rcases hC with rfl
                  · exact hk_306
            | false =>
              rw [h12] at hC
              simp only [cond_false] at hC
              cases h14 : Nat.blt c 274 with
              | true =>
                rw [h14] at hC
                simp only [cond_true] at hC
                cases hb : Nat.beq c 273 with
                | false => rw [hb] at hC; exact nomatch hC
                | true =>
                  rw [hb] at hC
                  have e := Nat.eq_of_beq_eq_true hb
                  subst e
                  simp only [cond_true, List.mem_cons, List.not_mem_nil, or_false] at hC
                  rcases hC with rfl
                  · exact ko_307 ih
              | false =>
                rw [h14] at hC
                simp only [cond_false] at hC
                cases h16 : Nat.blt c 275 with
                | true =>
                  rw [h16] at hC
                  simp only [cond_true] at hC
                  cases hb : Nat.beq c 274 with
                  | false => rw [hb] at hC; exact nomatch hC
                  | true =>
                    rw [hb] at hC
                    have e := Nat.eq_of_beq_eq_true hb
                    subst e
                    simp only [cond_true, List.mem_cons, List.not_mem_nil, or_false] at hC
                    rcases hC with rfl
                    · exact ko_308 ih
                | false =>
                  rw [h16] at hC
                  simp only [cond_false] at hC
                  cases hb : Nat.beq c 275 with
                  | false => rw [hb] at hC; exact nomatch hC
                  | true =>
                    rw [hb] at hC
                    have e := Nat.eq_of_beq_eq_true hb
                    subst e
                    simp only [cond_true, List.mem_cons, List.not_mem_nil, or_false] at hC
                    rcases hC with rfl
                    · exact ko_309 ih
          | false =>
            rw [h10] at hC
            simp only [cond_false] at hC
            cases h12 : Nat.blt c 279 with
            | true =>
              rw [h12] at hC
              simp only [cond_true] at hC
              cases h14 : Nat.blt c 277 with
              | true =>
                rw [h14] at hC
                simp only [cond_true] at hC
                cases hb : Nat.beq c 276 with
                | false => rw [hb] at hC; exact nomatch hC
                | true =>
                  rw [hb] at hC
                  have e := Nat.eq_of_beq_eq_true hb
                  subst e
                  simp only [cond_true, List.mem_cons, List.not_mem_nil, or_false] at hC
                  rcases hC with rfl
                  · exact ko_310 ih
              | false =>
                rw [h14] at hC
                simp only [cond_false] at hC
                cases h16 : Nat.blt c 278 with
                | true =>
                  rw [h16] at hC
                  simp only [cond_true] at hC
                  cases hb : Nat.beq c 277 with
                  | false => rw [hb] at hC; exact nomatch hC
                  | true =>
                    rw [hb] at hC
                    have e := Nat.eq_of_beq_eq_true hb
                    subst e
                    simp only [cond_true, List.mem_cons, List.not_mem_nil, or_false] at hC
                    rcases hC with rfl
                    · exact ko_311 ih
                | false =>
                  rw [h16] at hC
                  simp only [cond_false] at hC
                  cases hb : Nat.beq c 278 with
                  | false => rw [hb] at hC; exact nomatch hC
                  | true =>
                    rw [hb] at hC
                    have e := Nat.eq_of_beq_eq_true hb
                    subst e
                    simp only [cond_true, List.mem_cons, List.not_mem_nil, or_false] at hC
                    rcases hC with rfl
                    · exact ko_312 ih
            | false =>
              rw [h12] at hC
              simp only [cond_false] at hC
              cases h14 : Nat.blt c 280 with
              | true =>
                rw [h14] at hC
                simp only [cond_true] at hC
                cases hb : Nat.beq c 279 with
                | false => rw [hb] at hC; exact nomatch hC
                | true =>
                  rw [hb] at hC
                  have e := Nat.eq_of_beq_eq_true hb
                  subst e
                  simp only [cond_true, List.mem_cons, List.not_mem_nil, or_false] at hC
                  rcases hC with rfl
                  · exact ko_313 ih
              | false =>
                rw [h14] at hC
                simp only [cond_false] at hC
                cases h16 : Nat.blt c 281 with
                | true =>
                  rw [h16] at hC
                  simp only [cond_true] at hC
                  cases hb : Nat.beq c 280 with
                  | false => rw [hb] at hC; exact nomatch hC
                  | true =>
                    rw [hb] at hC
                    have e := Nat.eq_of_beq_eq_true hb
                    subst e
                    simp only [cond_true, List.mem_cons, List.not_mem_nil, or_false] at hC
                    rcases hC with rfl | rfl | rfl | rfl | rfl | rfl | rfl | rfl
                    · exact ko_263 ih
                    · exact ko_264 ih
                    · exact ko_265 ih
                    · exact ko_266 ih
                    · exact ko_267 ih
                    · exact ko_268 ih
                    · exact ko_269 ih
                    · exact ko_270 ih
                | false =>
                  rw [h16] at hC
                  simp only [cond_false] at hC
                  cases hb : Nat.beq c 281 with
                  | false => rw [hb] at hC; exact nomatch hC
                  | true =>
                    rw [hb] at hC
                    have e := Nat.eq_of_beq_eq_true hb
                    subst e
                    simp only [cond_true, List.mem_cons, List.not_mem_nil, or_false] at hC
                    rcases hC with rfl
                    · exact ko_314 ih
        | false =>
          rw [h8] at hC
          simp only [cond_false] at hC
          cases h10 : Nat.blt c 288 with
          | true =>
            rw [h10] at hC
            simp only [cond_true] at hC
            cases h12 : Nat.blt c 285 with
            | true =>
              rw [h12] at hC
              simp only [cond_true] at hC
              cases h14 : Nat.blt c 283 with
              | true =>
                rw [h14] at hC
                simp only [cond_true] at hC
                cases hb : Nat.beq c 282 with
                | false => rw [hb] at hC; exact nomatch hC
                | true =>
                  rw [hb] at hC
                  have e := Nat.eq_of_beq_eq_true hb
                  subst e
                  simp only [cond_true, List.mem_cons, List.not_mem_nil, or_false] at hC
                  rcases hC with rfl | rfl | rfl | rfl | rfl | rfl | rfl
                  · exact ko_248 ih
                  · exact ko_249 ih
                  · exact ko_250 ih
                  · exact ko_251 ih
                  · exact ko_252 ih
                  · exact ko_253 ih
                  · exact ko_254 ih
              | false =>
                rw [h14] at hC
                simp only [cond_false] at hC
                cases h16 : Nat.blt c 284 with
                | true =>
                  rw [h16] at hC
                  simp only [cond_true] at hC
                  cases hb : Nat.beq c 283 with
                  | false => rw [hb] at hC; exact nomatch hC
                  | true =>
                    rw [hb] at hC
                    have e := Nat.eq_of_beq_eq_true hb
                    subst e
                    simp only [cond_true, List.mem_cons, List.not_mem_nil, or_false] at hC
                    rcases hC with rfl
                    · exact ko_315 ih
                | false =>
                  rw [h16] at hC
                  simp only [cond_false] at hC
                  cases hb : Nat.beq c 284 with
                  | false => rw [hb] at hC; exact nomatch hC
                  | true =>
                    rw [hb] at hC
                    have e := Nat.eq_of_beq_eq_true hb
                    subst e
                    simp only [cond_true, List.mem_cons, List.not_mem_nil, or_false] at hC
                    rcases hC with rfl | rfl | rfl | rfl | rfl | rfl | rfl | rfl
                    · exact ko_271 ih
                    · exact ko_272 ih
                    · exact ko_273 ih
                    · exact ko_274 ih
                    · exact ko_275 ih
                    · exact ko_276 ih
                    · exact ko_277 ih
                    · exact ko_278 ih
            | false =>
              rw [h12] at hC
              simp only [cond_false] at hC
              cases h14 : Nat.blt c 286 with
              | true =>
                rw [h14] at hC
                simp only [cond_true] at hC
                cases hb : Nat.beq c 285 with
                | false => rw [hb] at hC; exact nomatch hC
                | true =>
                  rw [hb] at hC
                  have e := Nat.eq_of_beq_eq_true hb
                  subst e
                  simp only [cond_true, List.mem_cons, List.not_mem_nil, or_false] at hC
                  rcases hC with rfl
                  · exact ko_316 ih
              | false =>
                rw [h14] at hC
                simp only [cond_false] at hC
                cases h16 : Nat.blt c 287 with
                | true =>
                  rw [h16] at hC
                  simp only [cond_true] at hC
                  cases hb : Nat.beq c 286 with
                  | false => rw [hb] at hC; exact nomatch hC
                  | true =>
                    rw [hb] at hC
                    have e := Nat.eq_of_beq_eq_true hb
                    subst e
                    simp only [cond_true, List.mem_cons, List.not_mem_nil, or_false] at hC
                    rcases hC with rfl
                    · exact ko_161 ih
                | false =>
                  rw [h16] at hC
                  simp only [cond_false] at hC
                  cases hb : Nat.beq c 287 with
                  | false => rw [hb] at hC; exact nomatch hC
                  | true =>
                    rw [hb] at hC
                    have e := Nat.eq_of_beq_eq_true hb
                    subst e
                    simp only [cond_true, List.mem_cons, List.not_mem_nil, or_false] at hC
                    rcases hC with rfl
                    · exact ko_317 ih
          | false =>
            rw [h10] at hC
            simp only [cond_false] at hC
            cases h12 : Nat.blt c 291 with
            | true =>
              rw [h12] at hC
              simp only [cond_true] at hC
              cases h14 : Nat.blt c 289 with
              | true =>
                rw [h14] at hC
                simp only [cond_true] at hC
                cases hb : Nat.beq c 288 with
                | false => rw [hb] at hC; exact nomatch hC
                | true =>
                  rw [hb] at hC
                  have e := Nat.eq_of_beq_eq_true hb
                  subst e
                  simp only [cond_true, List.mem_cons, List.not_mem_nil, or_false] at hC
                  rcases hC with rfl
                  · exact ko_170 ih
              | false =>
                rw [h14] at hC
                simp only [cond_false] at hC
                cases h16 : Nat.blt c 290 with
                | true =>
                  rw [h16] at hC
                  simp only [cond_true] at hC
                  cases hb : Nat.beq c 289 with
                  | false => rw [hb] at hC; exact nomatch hC
                  | true =>
                    rw [hb] at hC
                    have e := Nat.eq_of_beq_eq_true hb
                    subst e
                    simp only [cond_true, List.mem_cons, List.not_mem_nil, or_false] at hC
                    rcases hC with rfl
                    · exact ko_172 ih
                | false =>
                  rw [h16] at hC
                  simp only [cond_false] at hC
                  cases hb : Nat.beq c 290 with
                  | false => rw [hb] at hC; exact nomatch hC
                  | true =>
                    rw [hb] at hC
                    have e := Nat.eq_of_beq_eq_true hb
                    subst e
                    simp only [cond_true, List.mem_cons, List.not_mem_nil, or_false] at hC
                    rcases hC with rfl
                    · exact ko_318 ih
            | false =>
              rw [h12] at hC
              simp only [cond_false] at hC
              cases h14 : Nat.blt c 292 with
              | true =>
                rw [h14] at hC
                simp only [cond_true] at hC
                cases hb : Nat.beq c 291 with
                | false => rw [hb] at hC; exact nomatch hC
                | true =>
                  rw [hb] at hC
                  have e := Nat.eq_of_beq_eq_true hb
                  subst e
                  simp only [cond_true, List.mem_cons, List.not_mem_nil, or_false] at hC
                  rcases hC with rfl
                  · exact ko_319 ih
              | false =>
                rw [h14] at hC
                simp only [cond_false] at hC
                cases h16 : Nat.blt c 293 with
                | true =>
                  rw [h16] at hC
                  simp only [cond_true] at hC
                  cases hb : Nat.beq c 292 with
                  | false => rw [hb] at hC; exact nomatch hC
                  | true =>
                    rw [hb] at hC
                    have e := Nat.eq_of_beq_eq_true hb
                    subst e
                    simp only [cond_true, List.mem_cons, List.not_mem_nil, or_false] at hC
                    rcases hC with rfl | rfl
                    · exact ko_0 ih
                    · exact ko_1 ih
                | false =>
                  rw [h16] at hC
                  simp only [cond_false] at hC
                  cases hb : Nat.beq c 293 with
                  | false => rw [hb] at hC; exact nomatch hC
                  | true =>
                    rw [hb] at hC
                    have e := Nat.eq_of_beq_eq_true hb
                    subst e
                    simp only [cond_true, List.mem_cons, List.not_mem_nil, or_false] at hC
                    rcases hC with rfl
                    · exact ko_2 ih
end Table
