/-! Every contract holds, so deep as is wanted. -/
theorem q_all {l : Launch} {dC : Nat → ClassId} {dI : Nat → Nat → Nat} {dA : FieldType → ClassId} {Hb : Heap} {ad : Nat → Nat} : ∀ D, ∀ c, ∀ C ∈ tab c, q_KOK l dC dI dA Hb ad c C D := by
  intro D
  induction D using Nat.strongRecOn with
  | ind K ih => exact q_tabK ih (ko_42 ih) (ko_247 ih) (ko_306 ih)
theorem q_allL {l : Launch} {dC : Nat → ClassId} {dI : Nat → Nat → Nat} {dA : FieldType → ClassId} {Hb : Heap} {ad : Nat → Nat} : ∀ D, ∀ c, ∀ C ∈ tabL c, q_KOK l dC dI dA Hb ad c C D := by
  intro D c C hC
  unfold tabL at hC
  cases hb : (Nat.beq c 153 || Nat.beq c 278 || Nat.beq c 113 || Nat.beq c 196) with
  | true => rw [hb] at hC; exact nomatch hC
  | false => rw [hb] at hC; exact q_all D c C hC
