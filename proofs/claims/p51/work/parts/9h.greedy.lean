/-! The greedy count: of numbers. -/
noncomputable def y_gv (r : List Int) (j : Nat) : Int := (r[j]?).getD 0
/-- served: one of the first q is as long -/
noncomputable def y_srv (T : Nat → Int) (m q v : Int) : Prop := ∃ i : Nat, (i : Int) < q ∧ v ≤ T i ∧ T i ≤ v + m
/-- told by a law, and not served -/
noncomputable def y_A (L T : Nat → Int) (m n q v : Int) : Prop := (∃ k : Nat, (k : Int) < n ∧ L k = v) ∧ ¬ y_srv T m q v
noncomputable def y_w (A : Int → Prop) (m : Int) : Nat → Int × Int
  | 0 => (0, -1)
  | v + 1 => @ite _ (A (v : Int) ∧ ¬((v : Int) ≤ (y_w A m v).2 ∧ (y_w A m v).2 ≤ (v : Int) + m)) (Classical.propDecidable _) ((y_w A m v).1 + 1, (v : Int) + m) (y_w A m v)
noncomputable def y_want (L T : Nat → Int) (m n q : Int) : Int := (y_w (y_A L T m n q) m 100).1
section Greedy
variable {A B : Int → Prop} {m : Int}
theorem y_wS (A : Int → Prop) (m : Int) (v : Nat) : ((A (v : Int) ∧ ¬((v : Int) ≤ (y_w A m v).2 ∧ (y_w A m v).2 ≤ (v : Int) + m)) ∧ y_w A m (v + 1) = ((y_w A m v).1 + 1, (v : Int) + m)) ∨ (¬(A (v : Int) ∧ ¬((v : Int) ≤ (y_w A m v).2 ∧ (y_w A m v).2 ≤ (v : Int) + m)) ∧ y_w A m (v + 1) = y_w A m v) := by
  by_cases h : A (v : Int) ∧ ¬((v : Int) ≤ (y_w A m v).2 ∧ (y_w A m v).2 ≤ (v : Int) + m)
  · exact Or.inl ⟨h, if_pos h⟩
  · exact Or.inr ⟨h, if_neg h⟩
theorem y_wB (A : Int → Prop) (m : Int) : ∀ v : Nat, 0 ≤ (y_w A m v).1 ∧ (y_w A m v).1 ≤ (v : Int)
  | 0 => ⟨Int.le_refl _, Int.le_refl _⟩
  | v + 1 => by
    obtain ⟨h1, h2⟩ := y_wB A m v
    rcases y_wS A m v with ⟨-, e⟩ | ⟨-, e⟩
    · rw [e]
      exact ⟨by show 0 ≤ (y_w A m v).1 + 1; omega, by show (y_w A m v).1 + 1 ≤ ((v + 1 : Nat) : Int); omega⟩
    · rw [e]
      exact ⟨h1, by omega⟩
theorem y_wL (A : Int → Prop) (m : Int) (hm : 0 ≤ m) : ∀ v : Nat, ((y_w A m v).1 = 0 → (y_w A m v).2 = -1) ∧ (-1 ≤ (y_w A m v).2 ∧ (y_w A m v).2 ≤ (v : Int) + m)
  | 0 => ⟨fun _ => rfl, Int.le_refl _, by show (-1 : Int) ≤ ((0 : Nat) : Int) + m; omega⟩
  | v + 1 => by
    obtain ⟨h1, h2, h3⟩ := y_wL A m hm v
    have := y_wB A m v
    rcases y_wS A m v with ⟨-, e⟩ | ⟨-, e⟩
    · rw [e]
      refine ⟨fun h => ?_, ?_, ?_⟩
      · have h : (y_w A m v).1 + 1 = 0 := h
        omega
      · show (-1 : Int) ≤ (v : Int) + m
        omega
      · show (v : Int) + m ≤ ((v + 1 : Nat) : Int) + m
        omega
    · rw [e]
      exact ⟨h1, h2, by omega⟩
theorem y_wM {a b : Nat} (h : a ≤ b) : (y_w A m a).1 ≤ (y_w A m b).1 := by
  induction b with
  | zero =>
    have e : a = 0 := by omega
    subst e
    exact Int.le_refl _
  | succ b ih =>
    by_cases e : a = b + 1
    · subst e
      exact Int.le_refl _
    · have := ih (by omega)
      rcases y_wS A m b with ⟨-, e⟩ | ⟨-, e⟩
      · rw [e]
        show (y_w A m a).1 ≤ (y_w A m b).1 + 1
        omega
      · rw [e]
        exact this
theorem y_wE {N : Nat} (h : ∀ v : Nat, v < N → (A (v : Int) ↔ B (v : Int))) : y_w A m N = y_w B m N := by
  induction N with
  | zero => rfl
  | succ v ih =>
    have e := ih (fun u hu => h u (by omega))
    have hv := h v (by omega)
    rcases y_wS A m v with ⟨a, ea⟩ | ⟨a, ea⟩ <;> rcases y_wS B m v with ⟨b, eb⟩ | ⟨b, eb⟩
    · rw [ea, eb, e]
    · rw [e] at a
      exact absurd ⟨hv.mp a.1, a.2⟩ b
    · rw [e] at a
      exact absurd ⟨hv.mpr b.1, b.2⟩ a
    · rw [ea, eb, e]
theorem y_w0 {N : Nat} (h : ∀ v : Nat, v < N → ¬A (v : Int)) : y_w A m N = (0, -1) := by
  induction N with
  | zero => rfl
  | succ v ih =>
    have e := ih (fun u hu => h u (by omega))
    rcases y_wS A m v with ⟨a, ea⟩ | ⟨a, ea⟩
    · exact absurd a.1 (h v (by omega))
    · rw [ea, e]
theorem y_wP {N v : Nat} (hm : 0 ≤ m) (hv : v < N) (hA : A (v : Int)) : 1 ≤ (y_w A m N).1 := by
  have h1 : 1 ≤ (y_w A m (v + 1)).1 := by
    have b := y_wB A m v
    have l := y_wL A m hm v
    rcases y_wS A m v with ⟨-, e⟩ | ⟨a, e⟩
    · rw [e]
      show 1 ≤ (y_w A m v).1 + 1
      omega
    · rw [e]
      by_cases z : (y_w A m v).1 = 0
      · have z2 := l.1 z
        exact absurd ⟨hA, fun h => by omega⟩ a
      · omega
  have h2 := y_wM (A := A) (m := m) (show v + 1 ≤ N from hv)
  omega
theorem y_wG {v0 : Nat} (hm : 0 ≤ m) (hA : A (v0 : Int)) (hmin : ∀ v : Nat, v < v0 → ¬A (v : Int)) (hB : ∀ v : Nat, B (v : Int) ↔ (A (v : Int) ∧ ¬((v : Int) ≤ (v0 : Int) + m ∧ (v0 : Int) + m ≤ (v : Int) + m))) : ∀ d : Nat, (y_w A m (v0 + 1 + d)).1 = (y_w B m (v0 + 1 + d)).1 + 1 ∧ ((((v0 + 1 + d : Nat) : Int) ≤ (v0 : Int) + m + 1 ∧ (y_w A m (v0 + 1 + d)).2 = (v0 : Int) + m ∧ (y_w B m (v0 + 1 + d)).2 = -1) ∨ ((v0 : Int) + m + 1 ≤ ((v0 + 1 + d : Nat) : Int) ∧ ((y_w A m (v0 + 1 + d)).2 = (y_w B m (v0 + 1 + d)).2 ∨ ((y_w A m (v0 + 1 + d)).2 < ((v0 + 1 + d : Nat) : Int) ∧ (y_w B m (v0 + 1 + d)).2 < ((v0 + 1 + d : Nat) : Int)))))
  | 0 => by
    have ea : y_w A m v0 = (0, -1) := y_w0 hmin
    have eb : y_w B m v0 = (0, -1) := y_w0 (fun v hv h => hmin v hv ((hB v).mp h).1)
    have nB : ¬B (v0 : Int) := fun h => ((hB v0).mp h).2 ⟨by omega, by omega⟩
    rw [Nat.add_zero]
    rcases y_wS A m v0 with ⟨-, e1⟩ | ⟨a, e1⟩
    · rcases y_wS B m v0 with ⟨b, e2⟩ | ⟨-, e2⟩
      · exact absurd b.1 nB
      · rw [e1, e2, ea, eb]
        exact ⟨rfl, Or.inl ⟨by omega, rfl, rfl⟩⟩
    · rw [ea] at a
      exact absurd ⟨hA, fun h => by have h : (v0 : Int) ≤ -1 := h.1; omega⟩ a
  | d + 1 => by
    obtain ⟨h1, h2⟩ := y_wG hm hA hmin hB d
    have ev : v0 + 1 + (d + 1) = (v0 + 1 + d) + 1 := rfl
    rw [ev]
    generalize hv : v0 + 1 + d = v at h1 h2 ⊢
    have hv0 : (v0 : Int) + 1 ≤ (v : Int) := by omega
    have hBv := hB v
    -- behind what the first one serves
    have far : (v0 : Int) + m + 1 ≤ (v : Int) → ((y_w A m v).2 = (y_w B m v).2 ∨ ((y_w A m v).2 < (v : Int) ∧ (y_w B m v).2 < (v : Int))) → (y_w A m (v + 1)).1 = (y_w B m (v + 1)).1 + 1 ∧ ((y_w A m (v + 1)).2 = (y_w B m (v + 1)).2 ∨ ((y_w A m (v + 1)).2 < ((v + 1 : Nat) : Int) ∧ (y_w B m (v + 1)).2 < ((v + 1 : Nat) : Int))) := by
      intro f1 f2
      have AB : B (v : Int) ↔ A (v : Int) := ⟨fun h => (hBv.mp h).1, fun h => hBv.mpr ⟨h, fun q => by omega⟩⟩
      rcases y_wS A m v with ⟨a, e1⟩ | ⟨a, e1⟩ <;> rcases y_wS B m v with ⟨b, e2⟩ | ⟨b, e2⟩
      · rw [e1, e2]
        exact ⟨by show (y_w A m v).1 + 1 = (y_w B m v).1 + 1 + 1; omega, Or.inl rfl⟩
      · exfalso
        refine b ⟨AB.mpr a.1, fun q => ?_⟩
        rcases f2 with f2 | f2
        · rw [← f2] at q
          exact a.2 q
        · omega
      · exfalso
        refine a ⟨AB.mp b.1, fun q => ?_⟩
        rcases f2 with f2 | f2
        · rw [f2] at q
          exact b.2 q
        · omega
      · rw [e1, e2]
        exact ⟨h1, by omega⟩
    rcases h2 with ⟨g1, g2, g3⟩ | ⟨g1, g2⟩
    · by_cases hl : (v : Int) ≤ (v0 : Int) + m
      · rcases y_wS A m v with ⟨a, e1⟩ | ⟨-, e1⟩
        · exact absurd ⟨by omega, by omega⟩ a.2
        · rcases y_wS B m v with ⟨b, e2⟩ | ⟨-, e2⟩
          · exact absurd ⟨hl, by omega⟩ (hBv.mp b.1).2
          · rw [e1, e2]
            exact ⟨h1, Or.inl ⟨by omega, g2, g3⟩⟩
      · obtain ⟨k1, k2⟩ := far (by omega) (Or.inr ⟨by omega, by omega⟩)
        exact ⟨k1, Or.inr ⟨by omega, k2⟩⟩
    · obtain ⟨k1, k2⟩ := far g1 g2
      exact ⟨k1, Or.inr ⟨by omega, k2⟩⟩
/-- how many of the laws are less -/
noncomputable def y_c (L : Nat → Int) (v : Int) : Nat → Int
  | 0 => 0
  | n + 1 => y_c L v n + (if L n < v then 1 else 0)
theorem y_cB (L : Nat → Int) (v : Int) : ∀ n : Nat, 0 ≤ y_c L v n ∧ y_c L v n ≤ (n : Int)
  | 0 => ⟨Int.le_refl _, Int.le_refl _⟩
  | n + 1 => by
    have := y_cB L v n
    unfold y_c
    split <;> omega
theorem y_cM (L : Nat → Int) (v : Int) : ∀ n : Nat, y_c L v n ≤ y_c L (v + 1) n
  | 0 => Int.le_refl _
  | n + 1 => by
    have := y_cM L v n
    unfold y_c
    split <;> split <;> omega
theorem y_cS (L : Nat → Int) (v : Int) : ∀ n : Nat, (∃ k, k < n ∧ L k = v) → y_c L v n + 1 ≤ y_c L (v + 1) n
  | 0, h => by obtain ⟨k, h1, -⟩ := h; omega
  | n + 1, h => by
    obtain ⟨k, h1, h2⟩ := h
    unfold y_c
    by_cases e : k = n
    · subst e
      have := y_cM L v k
      rw [if_neg (by omega), if_pos (by omega)]
      omega
    · have := y_cS L v n ⟨k, by omega, h2⟩
      split <;> split <;> omega
theorem y_wC {L : Nat → Int} {n : Nat} (h : ∀ v : Nat, A (v : Int) → ∃ k, k < n ∧ L k = (v : Int)) : ∀ v : Nat, (y_w A m v).1 ≤ y_c L (v : Int) n
  | 0 => (y_cB L _ n).1
  | v + 1 => by
    have ih := y_wC h v
    have e : ((v + 1 : Nat) : Int) = (v : Int) + 1 := by omega
    rw [e]
    rcases y_wS A m v with ⟨a, e1⟩ | ⟨-, e1⟩
    · rw [e1]
      have := y_cS L v n (h v a.1)
      show (y_w A m v).1 + 1 ≤ _
      omega
    · rw [e1]
      have := y_cM L v n
      omega
theorem y_least (P : Nat → Prop) (h : ∃ n, P n) : ∃ n, P n ∧ ∀ k, k < n → ¬P k := by
  obtain ⟨n, hn⟩ := h
  induction n using Nat.strongRecOn with
  | ind n ih =>
    by_cases hh : ∃ k, k < n ∧ P k
    · obtain ⟨k, h1, h2⟩ := hh
      exact ih k h1 h2
    · exact ⟨n, hn, fun k hk hp => hh ⟨k, hk, hp⟩⟩
end Greedy
section Taken
variable {L T T' : Nat → Int} {m n many : Int} {i : Nat}
theorem y_wantB (L T : Nat → Int) (m n q : Int) : 0 ≤ y_want L T m n q ∧ y_want L T m n q ≤ 100 := y_wB _ _ 100
theorem y_wantN (L T : Nat → Int) (m q : Int) {n : Int} (hn : 0 ≤ n) : y_want L T m n q ≤ n := by
  have h := y_wC (A := y_A L T m n q) (m := m) (L := L) (n := n.toNat) (fun v hv => by
    obtain ⟨k, k1, k2⟩ := hv.1
    exact ⟨k, by omega, k2⟩) 100
  have b := (y_cB L ((100 : Nat) : Int) n.toNat).2
  show (y_w (y_A L T m n q) m 100).1 ≤ n
  omega
theorem y_srvE {q : Int} (h : ∀ j : Nat, (j : Int) < q → T' j = T j) (v : Int) : y_srv T' m q v ↔ y_srv T m q v := by
  constructor
  · rintro ⟨j, j1, j2⟩
    exact ⟨j, j1, by rw [← h j j1]; exact j2⟩
  · rintro ⟨j, j1, j2⟩
    exact ⟨j, j1, by rw [h j j1]; exact j2⟩
theorem y_AE {L' : Nat → Int} {q : Int} (hl : ∀ k : Nat, (k : Int) < n → L' k = L k) (h : ∀ j : Nat, (j : Int) < q → T' j = T j) (v : Int) : y_A L' T' m n q v ↔ y_A L T m n q v := by
  unfold y_A
  rw [y_srvE h v]
  constructor
  · rintro ⟨⟨k, k1, k2⟩, h2⟩
    exact ⟨⟨k, k1, by rw [← hl k k1]; exact k2⟩, h2⟩
  · rintro ⟨⟨k, k1, k2⟩, h2⟩
    exact ⟨⟨k, k1, by rw [hl k k1]; exact k2⟩, h2⟩
theorem y_wantE {L' : Nat → Int} {q : Int} (hl : ∀ k : Nat, (k : Int) < n → L' k = L k) (h : ∀ j : Nat, (j : Int) < q → T' j = T j) : y_want L' T' m n q = y_want L T m n q := by
  show (y_w (y_A L' T' m n q) m 100).1 = (y_w (y_A L T m n q) m 100).1
  rw [y_wE (A := y_A L' T' m n q) (B := y_A L T m n q) (fun v _ => y_AE hl h v)]
/-- the next one -/
theorem y_A1 (v : Int) : y_A L T m n ((i : Int) + 1) v ↔ (y_A L T m n (i : Int) v ∧ ¬(v ≤ T i ∧ T i ≤ v + m)) := by
  constructor
  · rintro ⟨h1, h2⟩
    refine ⟨⟨h1, fun ⟨j, j1, j2⟩ => h2 ⟨j, by omega, j2⟩⟩, fun h => h2 ⟨i, by omega, h⟩⟩
  · rintro ⟨⟨h1, h2⟩, h3⟩
    refine ⟨h1, fun ⟨j, j1, j2⟩ => ?_⟩
    by_cases e : j = i
    · subst e
      exact h3 j2
    · exact h2 ⟨j, by omega, j2⟩
/-- the while goes on: not yet as long as the least unserved allows -/
theorem y_stop (hm : 0 ≤ m ∧ m ≤ 9) (hL : ∀ k : Nat, (k : Int) < n → 0 ≤ L k ∧ L k ≤ 99) (him : (i : Int) < many) (hw : y_want L T m n i ≤ many - i) (hu : ∀ v, y_A L T m n i v → T i ≤ v + m) (hgt : many - i ≤ y_want L T m n ((i : Int) + 1)) : T i ≤ 107 ∧ ∀ v, y_A L T m n i v → T i + 1 ≤ v + m := by
  have hnat : ∀ v, y_A L T m n i v → ∃ u : Nat, v = (u : Int) ∧ u ≤ 99 := fun v hv => by
    obtain ⟨k, k1, k2⟩ := hv.1
    have := hL k k1
    exact ⟨v.toNat, by omega, by omega⟩
  by_cases hex : ∃ u : Nat, y_A L T m n i (u : Int)
  · obtain ⟨v0, h0, hmin⟩ := y_least _ hex
    obtain ⟨u0, e0, b0⟩ := hnat _ h0
    have t0 := hu _ h0
    have ne : T i ≠ (v0 : Int) + m := fun e => by
      have g := (y_wG (A := y_A L T m n i) (B := y_A L T m n ((i : Int) + 1)) hm.1 h0 hmin (fun v => by rw [y_A1, e]) (99 - v0)).1
      have e2 : v0 + 1 + (99 - v0) = 100 := by omega
      rw [e2] at g
      have g : y_want L T m n i = y_want L T m n ((i : Int) + 1) + 1 := g
      omega
    refine ⟨by omega, fun v hv => ?_⟩
    obtain ⟨u, rfl, -⟩ := hnat v hv
    have : v0 ≤ u := by
      by_cases h : v0 ≤ u
      · exact h
      · exact absurd hv (hmin u (by omega))
    omega
  · exfalso
    have z : y_want L T m n ((i : Int) + 1) = 0 := by
      show (y_w (y_A L T m n ((i : Int) + 1)) m 100).1 = 0
      rw [y_w0 (fun v _ h => hex ⟨v, ((y_A1 (v : Int)).mp h).1⟩)]
    omega
theorem y_next (hu : ∀ v, y_A L T m n i v → T i ≤ v + m) (hm : 0 ≤ m) (v : Int) (hv : y_A L T m n ((i : Int) + 1) v) : T i + 1 ≤ v + m := by
  obtain ⟨h1, h2⟩ := (y_A1 v).mp hv
  have := hu v h1
  by_cases h : v ≤ T i
  · exact absurd ⟨h, this⟩ h2
  · omega
theorem y_done {q : Int} (hm : 0 ≤ m) (hL : ∀ k : Nat, (k : Int) < n → 0 ≤ L k ∧ L k ≤ 99) (hw : y_want L T m n q ≤ 0) (k : Nat) (hk : (k : Int) < n) : y_srv T m q (L k) := by
  by_cases h : y_srv T m q (L k)
  · exact h
  · exfalso
    have b := hL k hk
    have e : ((L k).toNat : Int) = L k := by omega
    have := y_wP (A := y_A L T m n q) (N := 100) (v := (L k).toNat) hm (by omega) (by rw [e]; exact ⟨⟨k, hk, rfl⟩, h⟩)
    have hw : (y_w (y_A L T m n q) m 100).1 ≤ 0 := hw
    omega
end Taken
