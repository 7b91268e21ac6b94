-- 9h.greedy.lean.txt
section
/-! The greedy count: of numbers. -/
noncomputable def y_gv (r : List Int) (j : Nat) : Int := (r[j]?).getD 0
/-- served: one of the first q is as long -/
noncomputable def y_srv (T : Nat → Int) (m q v : Int) : Prop := ∃ i : Nat, (i : Int) < q ∧ v ≤ T i ∧ T i ≤ v + m
/-- told by a law, and not served -/
noncomputable def y_A (L T : Nat → Int) (m n q v : Int) : Prop := (∃ k : Nat, (k : Int) < n ∧ L k = v) ∧ ¬ y_srv T m q v
noncomputable def y_w (A : Int → Prop) (m : Int) : Nat → Int × Int
  | 0 => (0, -1)
  | v + 1 => @ite _ (A (v : Int) ∧ ¬((v : Int) ≤ (y_w A m v).2 ∧ (y_w A m v).2 ≤ (v : Int) + m)) (Classical.propDecidable _) ((y_w A m v).1 + 1, (v : Int) + m) (y_w A m v)
noncomputable def y_want (L T : Nat → Int) (m n q : Int) : Int := (y_w (y_A L T m n q) m 100).1
section Greedy
variable {A B : Int → Prop} {m : Int}
theorem y_wS (A : Int → Prop) (m : Int) (v : Nat) : ((A (v : Int) ∧ ¬((v : Int) ≤ (y_w A m v).2 ∧ (y_w A m v).2 ≤ (v : Int) + m)) ∧ y_w A m (v + 1) = ((y_w A m v).1 + 1, (v : Int) + m)) ∨ (¬(A (v : Int) ∧ ¬((v : Int) ≤ (y_w A m v).2 ∧ (y_w A m v).2 ≤ (v : Int) + m)) ∧ y_w A m (v + 1) = y_w A m v) := by
  by_cases h : A (v : Int) ∧ ¬((v : Int) ≤ (y_w A m v).2 ∧ (y_w A m v).2 ≤ (v : Int) + m)
  · exact Or.inl ⟨h, if_pos h⟩
  · exact Or.inr ⟨h, if_neg h⟩
theorem y_wB (A : Int → Prop) (m : Int) : ∀ v : Nat, 0 ≤ (y_w A m v).1 ∧ (y_w A m v).1 ≤ (v : Int)
  | 0 => ⟨Int.le_refl _, Int.le_refl _⟩
  | v + 1 => by
    obtain ⟨h1, h2⟩ := y_wB A m v
    rcases y_wS A m v with ⟨-, e⟩ | ⟨-, e⟩
    · rw [e]
      exact ⟨by show 0 ≤ (y_w A m v).1 + 1; omega, by show (y_w A m v).1 + 1 ≤ ((v + 1 : Nat) : Int); omega⟩
    · rw [e]
      exact ⟨h1, by omega⟩
theorem y_wL (A : Int → Prop) (m : Int) (hm : 0 ≤ m) : ∀ v : Nat, ((y_w A m v).1 = 0 → (y_w A m v).2 = -1) ∧ (-1 ≤ (y_w A m v).2 ∧ (y_w A m v).2 ≤ (v : Int) + m)
  | 0 => ⟨fun _ => rfl, Int.le_refl _, by show (-1 : Int) ≤ ((0 : Nat) : Int) + m; omega⟩
  | v + 1 => by
    obtain ⟨h1, h2, h3⟩ := y_wL A m hm v
    have := y_wB A m v
    rcases y_wS A m v with ⟨-, e⟩ | ⟨-, e⟩
    · rw [e]
      refine ⟨fun h => ?_, ?_, ?_⟩
      · have h : (y_w A m v).1 + 1 = 0 := h
        omega
      · show (-1 : Int) ≤ (v : Int) + m
        omega
      · show (v : Int) + m ≤ ((v + 1 : Nat) : Int) + m
        omega
    · rw [e]
      exact ⟨h1, h2, by omega⟩
theorem y_wM {a b : Nat} (h : a ≤ b) : (y_w A m a).1 ≤ (y_w A m b).1 := by
  induction b with
  | zero =>
    have e : a = 0 := by omega
    subst e
    exact Int.le_refl _
  | succ b ih =>
    by_cases e : a = b + 1
    · subst e
      exact Int.le_refl _
    · have := ih (by omega)
      rcases y_wS A m b with ⟨-, e⟩ | ⟨-, e⟩
      · rw [e]
        show (y_w A m a).1 ≤ (y_w A m b).1 + 1
        omega
      · rw [e]
        exact this
theorem y_wE {N : Nat} (h : ∀ v : Nat, v < N → (A (v : Int) ↔ B (v : Int))) : y_w A m N = y_w B m N := by
  induction N with
  | zero => rfl
  | succ v ih =>
    have e := ih (fun u hu => h u (by omega))
    have hv := h v (by omega)
    rcases y_wS A m v with ⟨a, ea⟩ | ⟨a, ea⟩ <;> rcases y_wS B m v with ⟨b, eb⟩ | ⟨b, eb⟩
    · rw [ea, eb, e]
    · rw [e] at a
      exact absurd ⟨hv.mp a.1, a.2⟩ b
    · rw [e] at a
      exact absurd ⟨hv.mpr b.1, b.2⟩ a
    · rw [ea, eb, e]
theorem y_w0 {N : Nat} (h : ∀ v : Nat, v < N → ¬A (v : Int)) : y_w A m N = (0, -1) := by
  induction N with
  | zero => rfl
  | succ v ih =>
    have e := ih (fun u hu => h u (by omega))
    rcases y_wS A m v with ⟨a, ea⟩ | ⟨a, ea⟩
    · exact absurd a.1 (h v (by omega))
    · rw [ea, e]
theorem y_wP {N v : Nat} (hm : 0 ≤ m) (hv : v < N) (hA : A (v : Int)) : 1 ≤ (y_w A m N).1 := by
  have h1 : 1 ≤ (y_w A m (v + 1)).1 := by
    have b := y_wB A m v
    have l := y_wL A m hm v
    rcases y_wS A m v with ⟨-, e⟩ | ⟨a, e⟩
    · rw [e]
      show 1 ≤ (y_w A m v).1 + 1
      omega
    · rw [e]
      by_cases z : (y_w A m v).1 = 0
      · have z2 := l.1 z
        exact absurd ⟨hA, fun h => by omega⟩ a
      · omega
  have h2 := y_wM (A := A) (m := m) (show v + 1 ≤ N from hv)
  omega
theorem y_wG {v0 : Nat} (hm : 0 ≤ m) (hA : A (v0 : Int)) (hmin : ∀ v : Nat, v < v0 → ¬A (v : Int)) (hB : ∀ v : Nat, B (v : Int) ↔ (A (v : Int) ∧ ¬((v : Int) ≤ (v0 : Int) + m ∧ (v0 : Int) + m ≤ (v : Int) + m))) : ∀ d : Nat, (y_w A m (v0 + 1 + d)).1 = (y_w B m (v0 + 1 + d)).1 + 1 ∧ ((((v0 + 1 + d : Nat) : Int) ≤ (v0 : Int) + m + 1 ∧ (y_w A m (v0 + 1 + d)).2 = (v0 : Int) + m ∧ (y_w B m (v0 + 1 + d)).2 = -1) ∨ ((v0 : Int) + m + 1 ≤ ((v0 + 1 + d : Nat) : Int) ∧ ((y_w A m (v0 + 1 + d)).2 = (y_w B m (v0 + 1 + d)).2 ∨ ((y_w A m (v0 + 1 + d)).2 < ((v0 + 1 + d : Nat) : Int) ∧ (y_w B m (v0 + 1 + d)).2 < ((v0 + 1 + d : Nat) : Int)))))
  | 0 => by
    have ea : y_w A m v0 = (0, -1) := y_w0 hmin
    have eb : y_w B m v0 = (0, -1) := y_w0 (fun v hv h => hmin v hv ((hB v).mp h).1)
    have nB : ¬B (v0 : Int) := fun h => ((hB v0).mp h).2 ⟨by omega, by omega⟩
    rw [Nat.add_zero]
    rcases y_wS A m v0 with ⟨-, e1⟩ | ⟨a, e1⟩
    · rcases y_wS B m v0 with ⟨b, e2⟩ | ⟨-, e2⟩
      · exact absurd b.1 nB
      · rw [e1, e2, ea, eb]
        exact ⟨rfl, Or.inl ⟨by omega, rfl, rfl⟩⟩
    · rw [ea] at a
      exact absurd ⟨hA, fun h => by have h : (v0 : Int) ≤ -1 := h.1; omega⟩ a
  | d + 1 => by
    obtain ⟨h1, h2⟩ := y_wG hm hA hmin hB d
    have ev : v0 + 1 + (d + 1) = (v0 + 1 + d) + 1 := rfl
    rw [ev]
    generalize hv : v0 + 1 + d = v at h1 h2 ⊢
    have hv0 : (v0 : Int) + 1 ≤ (v : Int) := by omega
    have hBv := hB v
    -- behind what the first one serves
    have far : (v0 : Int) + m + 1 ≤ (v : Int) → ((y_w A m v).2 = (y_w B m v).2 ∨ ((y_w A m v).2 < (v : Int) ∧ (y_w B m v).2 < (v : Int))) → (y_w A m (v + 1)).1 = (y_w B m (v + 1)).1 + 1 ∧ ((y_w A m (v + 1)).2 = (y_w B m (v + 1)).2 ∨ ((y_w A m (v + 1)).2 < ((v + 1 : Nat) : Int) ∧ (y_w B m (v + 1)).2 < ((v + 1 : Nat) : Int))) := by
      intro f1 f2
      have AB : B (v : Int) ↔ A (v : Int) := ⟨fun h => (hBv.mp h).1, fun h => hBv.mpr ⟨h, fun q => by omega⟩⟩
      rcases y_wS A m v with ⟨a, e1⟩ | ⟨a, e1⟩ <;> rcases y_wS B m v with ⟨b, e2⟩ | ⟨b, e2⟩
      · rw [e1, e2]
        exact ⟨by show (y_w A m v).1 + 1 = (y_w B m v).1 + 1 + 1; omega, Or.inl rfl⟩
      · exfalso
        refine b ⟨AB.mpr a.1, fun q => ?_⟩
        rcases f2 with f2 | f2
        · rw [← f2] at q
          exact a.2 q
        · omega
      · exfalso
        refine a ⟨AB.mp b.1, fun q => ?_⟩
        rcases f2 with f2 | f2
        · rw [f2] at q
          exact b.2 q
        · omega
      · rw [e1, e2]
        exact ⟨h1, by omega⟩
    rcases h2 with ⟨g1, g2, g3⟩ | ⟨g1, g2⟩
    · by_cases hl : (v : Int) ≤ (v0 : Int) + m
      · rcases y_wS A m v with ⟨a, e1⟩ | ⟨-, e1⟩
        · exact absurd ⟨by omega, by omega⟩ a.2
        · rcases y_wS B m v with ⟨b, e2⟩ | ⟨-, e2⟩
          · exact absurd ⟨hl, by omega⟩ (hBv.mp b.1).2
          · rw [e1, e2]
            exact ⟨h1, Or.inl ⟨by omega, g2, g3⟩⟩
      · obtain ⟨k1, k2⟩ := far (by omega) (Or.inr ⟨by omega, by omega⟩)
        exact ⟨k1, Or.inr ⟨by omega, k2⟩⟩
    · obtain ⟨k1, k2⟩ := far g1 g2
      exact ⟨k1, Or.inr ⟨by omega, k2⟩⟩
/-- how many of the laws are less -/
noncomputable def y_c (L : Nat → Int) (v : Int) : Nat → Int
  | 0 => 0
  | n + 1 => y_c L v n + (if L n < v then 1 else 0)
theorem y_cB (L : Nat → Int) (v : Int) : ∀ n : Nat, 0 ≤ y_c L v n ∧ y_c L v n ≤ (n : Int)
  | 0 => ⟨Int.le_refl _, Int.le_refl _⟩
  | n + 1 => by
    have := y_cB L v n
    unfold y_c
    split <;> omega
theorem y_cM (L : Nat → Int) (v : Int) : ∀ n : Nat, y_c L v n ≤ y_c L (v + 1) n
  | 0 => Int.le_refl _
  | n + 1 => by
    have := y_cM L v n
    unfold y_c
    split <;> split <;> omega
theorem y_cS (L : Nat → Int) (v : Int) : ∀ n : Nat, (∃ k, k < n ∧ L k = v) → y_c L v n + 1 ≤ y_c L (v + 1) n
  | 0, h => by obtain ⟨k, h1, -⟩ := h; omega
  | n + 1, h => by
    obtain ⟨k, h1, h2⟩ := h
    unfold y_c
    by_cases e : k = n
    · subst e
      have := y_cM L v k
      rw [if_neg (by omega), if_pos (by omega)]
      omega
    · have := y_cS L v n ⟨k, by omega, h2⟩
      split <;> split <;> omega
theorem y_wC {L : Nat → Int} {n : Nat} (h : ∀ v : Nat, A (v : Int) → ∃ k, k < n ∧ L k = (v : Int)) : ∀ v : Nat, (y_w A m v).1 ≤ y_c L (v : Int) n
  | 0 => (y_cB L _ n).1
  | v + 1 => by
    have ih := y_wC h v
    have e : ((v + 1 : Nat) : Int) = (v : Int) + 1 := by omega
    rw [e]
    rcases y_wS A m v with ⟨a, e1⟩ | ⟨-, e1⟩
    · rw [e1]
      have := y_cS L v n (h v a.1)
      show (y_w A m v).1 + 1 ≤ _
      omega
    · rw [e1]
      have := y_cM L v n
      omega
theorem y_least (P : Nat → Prop) (h : ∃ n, P n) : ∃ n, P n ∧ ∀ k, k < n → ¬P k := by
  obtain ⟨n, hn⟩ := h
  induction n using Nat.strongRecOn with
  | ind n ih =>
    by_cases hh : ∃ k, k < n ∧ P k
    · obtain ⟨k, h1, h2⟩ := hh
      exact ih k h1 h2
    · exact ⟨n, hn, fun k hk hp => hh ⟨k, hk, hp⟩⟩
end Greedy
section Taken
variable {L T T' : Nat → Int} {m n many : Int} {i : Nat}
theorem y_wantB (L T : Nat → Int) (m n q : Int) : 0 ≤ y_want L T m n q ∧ y_want L T m n q ≤ 100 := y_wB _ _ 100
theorem y_wantN (L T : Nat → Int) (m q : Int) {n : Int} (hn : 0 ≤ n) : y_want L T m n q ≤ n := by
  have h := y_wC (A := y_A L T m n q) (m := m) (L := L) (n := n.toNat) (fun v hv => by
    obtain ⟨k, k1, k2⟩ := hv.1
    exact ⟨k, by omega, k2⟩) 100
  have b := (y_cB L ((100 : Nat) : Int) n.toNat).2
  show (y_w (y_A L T m n q) m 100).1 ≤ n
  omega
theorem y_srvE {q : Int} (h : ∀ j : Nat, (j : Int) < q → T' j = T j) (v : Int) : y_srv T' m q v ↔ y_srv T m q v := by
  constructor
  · rintro ⟨j, j1, j2⟩
    exact ⟨j, j1, by rw [← h j j1]; exact j2⟩
  · rintro ⟨j, j1, j2⟩
    exact ⟨j, j1, by rw [h j j1]; exact j2⟩
theorem y_AE {L' : Nat → Int} {q : Int} (hl : ∀ k : Nat, (k : Int) < n → L' k = L k) (h : ∀ j : Nat, (j : Int) < q → T' j = T j) (v : Int) : y_A L' T' m n q v ↔ y_A L T m n q v := by
  unfold y_A
  rw [y_srvE h v]
  constructor
  · rintro ⟨⟨k, k1, k2⟩, h2⟩
    exact ⟨⟨k, k1, by rw [← hl k k1]; exact k2⟩, h2⟩
  · rintro ⟨⟨k, k1, k2⟩, h2⟩
    exact ⟨⟨k, k1, by rw [hl k k1]; exact k2⟩, h2⟩
theorem y_wantE {L' : Nat → Int} {q : Int} (hl : ∀ k : Nat, (k : Int) < n → L' k = L k) (h : ∀ j : Nat, (j : Int) < q → T' j = T j) : y_want L' T' m n q = y_want L T m n q := by
  show (y_w (y_A L' T' m n q) m 100).1 = (y_w (y_A L T m n q) m 100).1
  rw [y_wE (A := y_A L' T' m n q) (B := y_A L T m n q) (fun v _ => y_AE hl h v)]
/-- the next one -/
theorem y_A1 (v : Int) : y_A L T m n ((i : Int) + 1) v ↔ (y_A L T m n (i : Int) v ∧ ¬(v ≤ T i ∧ T i ≤ v + m)) := by
  constructor
  · rintro ⟨h1, h2⟩
    refine ⟨⟨h1, fun ⟨j, j1, j2⟩ => h2 ⟨j, by omega, j2⟩⟩, fun h => h2 ⟨i, by omega, h⟩⟩
  · rintro ⟨⟨h1, h2⟩, h3⟩
    refine ⟨h1, fun ⟨j, j1, j2⟩ => ?_⟩
    by_cases e : j = i
    · subst e
      exact h3 j2
    · exact h2 ⟨j, by omega, j2⟩
/-- the while goes on: not yet as long as the least unserved allows -/
theorem y_stop (hm : 0 ≤ m ∧ m ≤ 9) (hL : ∀ k : Nat, (k : Int) < n → 0 ≤ L k ∧ L k ≤ 99) (him : (i : Int) < many) (hw : y_want L T m n i ≤ many - i) (hu : ∀ v, y_A L T m n i v → T i ≤ v + m) (hgt : many - i ≤ y_want L T m n ((i : Int) + 1)) : T i ≤ 107 ∧ ∀ v, y_A L T m n i v → T i + 1 ≤ v + m := by
  have hnat : ∀ v, y_A L T m n i v → ∃ u : Nat, v = (u : Int) ∧ u ≤ 99 := fun v hv => by
    obtain ⟨k, k1, k2⟩ := hv.1
    have := hL k k1
    exact ⟨v.toNat, by omega, by omega⟩
  by_cases hex : ∃ u : Nat, y_A L T m n i (u : Int)
  · obtain ⟨v0, h0, hmin⟩ := y_least _ hex
    obtain ⟨u0, e0, b0⟩ := hnat _ h0
    have t0 := hu _ h0
    have ne : T i ≠ (v0 : Int) + m := fun e => by
      have g := (y_wG (A := y_A L T m n i) (B := y_A L T m n ((i : Int) + 1)) hm.1 h0 hmin (fun v => by rw [y_A1, e]) (99 - v0)).1
      have e2 : v0 + 1 + (99 - v0) = 100 := by omega
      rw [e2] at g
      have g : y_want L T m n i = y_want L T m n ((i : Int) + 1) + 1 := g
      omega
    refine ⟨by omega, fun v hv => ?_⟩
    obtain ⟨u, rfl, -⟩ := hnat v hv
    have : v0 ≤ u := by
      by_cases h : v0 ≤ u
      · exact h
      · exact absurd hv (hmin u (by omega))
    omega
  · exfalso
    have z : y_want L T m n ((i : Int) + 1) = 0 := by
      show (y_w (y_A L T m n ((i : Int) + 1)) m 100).1 = 0
      rw [y_w0 (fun v _ h => hex ⟨v, ((y_A1 (v : Int)).mp h).1⟩)]
    omega
theorem y_next (hu : ∀ v, y_A L T m n i v → T i ≤ v + m) (hm : 0 ≤ m) (v : Int) (hv : y_A L T m n ((i : Int) + 1) v) : T i + 1 ≤ v + m := by
  obtain ⟨h1, h2⟩ := (y_A1 v).mp hv
  have := hu v h1
  by_cases h : v ≤ T i
  · exact absurd ⟨h, this⟩ h2
  · omega
theorem y_done {q : Int} (hm : 0 ≤ m) (hL : ∀ k : Nat, (k : Int) < n → 0 ≤ L k ∧ L k ≤ 99) (hw : y_want L T m n q ≤ 0) (k : Nat) (hk : (k : Int) < n) : y_srv T m q (L k) := by
  by_cases h : y_srv T m q (L k)
  · exact h
  · exfalso
    have b := hL k hk
    have e : ((L k).toNat : Int) = L k := by omega
    have := y_wP (A := y_A L T m n q) (N := 100) (v := (L k).toNat) hm (by omega) (by rw [e]; exact ⟨⟨k, hk, rfl⟩, h⟩)
    have hw : (y_w (y_A L T m n q) m 100).1 ≤ 0 := hw
    omega
end Taken
end
-- 9i.b21.lean.txt
section
section ZBlocks
variable {T : Nat → Nat → zG → (Option zA → zM → Prop) → Prop}
theorem zb268_0r (hT : zRules T) {D : Nat} {κ : Option zA → zM → Prop} {m : zM} {v : Int} {q : Nat} 
    (o1 : T (D + 3) 268 (2, [(0, zr 74), (1, zi v), (2, zi (q : Int)), (3, zi 0)], [], m) κ) :
    T (D + 3) 268 (0, [(0, zr 74), (1, zi v), (2, zi (q : Int))], [], m) κ :=
  hT.1 [(2, [0, 1, 2, 3])] 6 (D + 3) 268 _ κ (o1)
theorem zb268_0 (hT : zRules T) {D : Nat} {κ : Option zA → zM → Prop} {m : zM} {v : Int} {q : Nat}  (hB : zB m) (h_v : 0 ≤ v ∧ v ≤ 99) (h_q : q ≤ 26) 
    (k1 : T (D + 3) 268 (2, [(0, zr 74), (1, zi v), (2, zi (q : Int)), (3, zi 0)], [], m) κ) :
    T (D + 3) 268 (0, [(0, zr 74), (1, zi v), (2, zi (q : Int))], [], m) κ := by
  exact zb268_0r hT
    k1
theorem zb268_2r (hT : zRules T) {D : Nat} {κ : Option zA → zM → Prop} {m : zM} {v : Int} {q : Nat} {i : Nat} {lo : zL} (hlo : z_keep [0, 1, 2, 3] lo = [(0, zr 74), (1, zi v), (2, zi (q : Int)), (3, zi (i : Int))]) 
    (o1 : ¬ wr (i : Int) < wr (q : Int) → κ (some (zi 0)) m)
    (o2 : wr (i : Int) < wr (q : Int) → (0 ≤ wr (i : Int) ∧ wr (i : Int) < 26))
    (o3 : wr (i : Int) < wr (q : Int) → wr (m 98 ((wr (i : Int)).toNat)) < wr v → T (D + 3) 268 (2, [(0, zr 74), (1, zi v), (2, zi (q : Int)), (3, zi ((i : Int) + 1))], [], m) κ)
    (o4 : wr (i : Int) < wr (q : Int) → ¬ wr (m 98 ((wr (i : Int)).toNat)) < wr v → wr (v + (m 79 0)) < wr (m 98 ((wr (i : Int)).toNat)) → T (D + 3) 268 (2, [(0, zr 74), (1, zi v), (2, zi (q : Int)), (3, zi ((i : Int) + 1))], [], m) κ)
    (o5 : wr (i : Int) < wr (q : Int) → ¬ wr (m 98 ((wr (i : Int)).toNat)) < wr v → ¬ wr (v + (m 79 0)) < wr (m 98 ((wr (i : Int)).toNat)) → κ (some (zi 1)) m) :
    T (D + 3) 268 (2, lo, [], m) κ :=
  zkeep hT hlo (hT.1 [(2, [0, 1, 2, 3])] 6 (D + 3) 268 _ κ (And.intro (fun a1 => (And.intro (z_b01L rfl) (o1 a1))) (fun a2 => (hT.1 [(2, [0, 1, 2, 3])] 6 (D + 3) 268 (12, [(0, zr 74), (1, zi v), (2, zi (q : Int)), (3, zi (i : Int))], [zr 98, zr 74], m) _ (And.intro (o2 (Classical.byContradiction a2)) (hT.1 [] 6 (D + 2) 252 _ _ (hT.1 [] 6 (D + 2) 252 (8, [(0, zr 74), (1, zi (m 98 ((wr (i : Int)).toNat))), (2, zi v)], [zi 0, zr 79, zi v, zi v, zi (m 98 ((wr (i : Int)).toNat))], m) _ (And.intro (z_ixL rfl) (hT.1 [] 6 (D + 1) 186 _ _ (And.intro (fun a3 => (And.intro (z_b01L rfl) (hT.1 [] 6 (D + 2) 252 _ _ (And.intro (z_b01L rfl) (hT.1 [(2, [0, 1, 2, 3])] 6 (D + 3) 268 _ _ (And.intro (fun _ => (o3 (Classical.byContradiction a2) a3)) (fun a5 => (a5 (z_litT rfl)).elim))))))) (fun a4 => (And.intro (fun a6 => (hT.1 [] 6 (D + 1) 186 (14, [(0, zi (m 98 ((wr (i : Int)).toNat))), (1, zi v), (2, zi (v + (m 79 0)))], [], m) _ (And.intro (z_b01L rfl) (hT.1 [] 6 (D + 2) 252 _ _ (And.intro (z_b01L rfl) (hT.1 [(2, [0, 1, 2, 3])] 6 (D + 3) 268 _ _ (And.intro (fun _ => (o4 (Classical.byContradiction a2) a4 a6)) (fun a8 => (a8 (z_litT rfl)).elim)))))))) (fun a7 => (hT.1 [] 6 (D + 1) 186 (10, [(0, zi (m 98 ((wr (i : Int)).toNat))), (1, zi v), (2, zi (v + (m 79 0)))], [], m) _ (And.intro (z_b01L rfl) (hT.1 [] 6 (D + 2) 252 _ _ (And.intro (z_b01L rfl) (hT.1 [(2, [0, 1, 2, 3])] 6 (D + 3) 268 _ _ (And.intro (fun a9 => (z_litF a9 rfl).elim) (fun _ => (And.intro (z_b01L rfl) (o5 (Classical.byContradiction a2) a4 a7))))))))))))))))))))))
theorem zb268_2 (hT : zRules T) {D : Nat} {κ : Option zA → zM → Prop} {m : zM} {v : Int} {q : Nat} {i : Nat} {lo : zL} (hlo : z_keep [0, 1, 2, 3] lo = [(0, zr 74), (1, zi v), (2, zi (q : Int)), (3, zi (i : Int))])  (hB : zB m) (h_v : 0 ≤ v ∧ v ≤ 99) (h_q : q ≤ 26) (h_i : i ≤ 26) 
    (k1 : ¬ (i : Int) < (q : Int) → κ (some (zi 0)) m)
    (k2 : (i : Int) < (q : Int) → wr (m 98 i) < v → T (D + 3) 268 (2, [(0, zr 74), (1, zi v), (2, zi (q : Int)), (3, zi ((i : Int) + 1))], [], m) κ)
    (k3 : (i : Int) < (q : Int) → ¬ wr (m 98 i) < v → (v + (m 79 0)) < wr (m 98 i) → T (D + 3) 268 (2, [(0, zr 74), (1, zi v), (2, zi (q : Int)), (3, zi ((i : Int) + 1))], [], m) κ)
    (k4 : (i : Int) < (q : Int) → ¬ wr (m 98 i) < v → ¬ (v + (m 79 0)) < wr (m 98 i) → κ (some (zi 1)) m) :
    T (D + 3) 268 (2, lo, [], m) κ := by
  have hb3 : 0 ≤ (m 79 0) ∧ (m 79 0) ≤ 9 := hB 79 0
  have hb4 : (-2147483648) ≤ wr (m 98 i) ∧ wr (m 98 i) ≤ 2147483647 := wrB (m 98 i)
  have he0 : wr (i : Int) = (i : Int) := wr_id (by omega) (by omega)
  have he1 : wr (q : Int) = (q : Int) := wr_id (by omega) (by omega)
  have he2 : (i : Int).toNat = i := by omega
  have he3 : wr v = v := wr_id (by omega) (by omega)
  have he4 : wr (v + (m 79 0)) = (v + (m 79 0)) := wr_id (by omega) (by omega)
  have key := @zb268_2r T hT D κ m v q i lo hlo
  simp only [he0, he1, he2, he3, he4, Int.toNat_natCast] at key
  exact key
    k1
    (fun x0 => by refine ⟨?_, ?_⟩ <;> omega)
    k2
    k3
    k4
theorem zb269_0r (hT : zRules T) {D : Nat} {κ : Option zA → zM → Prop} {m : zM} {q : Nat} 
    (o1 : T (D + 4) 269 (7, [(0, zr 74), (1, zi (q : Int)), (2, zi 0), (3, zi (-1)), (4, zi 0)], [], m) κ) :
    T (D + 4) 269 (0, [(0, zr 74), (1, zi (q : Int))], [], m) κ :=
  hT.1 [(7, [0, 1, 2, 3, 4]), (20, [0, 1, 2, 3, 4, 5, 6])] 6 (D + 4) 269 _ κ (o1)
theorem zb269_0 (hT : zRules T) {D : Nat} {κ : Option zA → zM → Prop} {m : zM} {q : Nat}  (hB : zB m) (h_q : q ≤ 26) 
    (k1 : T (D + 4) 269 (7, [(0, zr 74), (1, zi (q : Int)), (2, zi 0), (3, zi (-1)), (4, zi 0)], [], m) κ) :
    T (D + 4) 269 (0, [(0, zr 74), (1, zi (q : Int))], [], m) κ := by
  exact zb269_0r hT
    k1
theorem zb269_7r (hT : zRules T) {D : Nat} {κ : Option zA → zM → Prop} {m : zM} {q : Nat} {c : Nat} {b : Int} {v : Nat} {lo : zL} (hlo : z_keep [0, 1, 2, 3, 4] lo = [(0, zr 74), (1, zi (q : Int)), (2, zi (c : Int)), (3, zi b), (4, zi (v : Int))]) 
    (o1 : 99 < wr (v : Int) → κ (some (zi (wr (c : Int)))) m)
    (o2 : ¬ 99 < wr (v : Int) → T (D + 4) 269 (20, [(0, zr 74), (1, zi (q : Int)), (2, zi (c : Int)), (3, zi b), (4, zi (v : Int)), (5, zi 0), (6, zi 0)], [], m) κ) :
    T (D + 4) 269 (7, lo, [], m) κ :=
  zkeep hT hlo (hT.1 [(7, [0, 1, 2, 3, 4]), (20, [0, 1, 2, 3, 4, 5, 6])] 6 (D + 4) 269 _ κ (And.intro (fun a1 => (o1 a1)) (fun a2 => (hT.1 [(7, [0, 1, 2, 3, 4]), (20, [0, 1, 2, 3, 4, 5, 6])] 6 (D + 4) 269 (18, [(0, zr 74), (1, zi (q : Int)), (2, zi (c : Int)), (3, zi b), (4, zi (v : Int)), (5, zi 0)], [zi 0], m) _ (o2 a2)))))
theorem zb269_7 (hT : zRules T) {D : Nat} {κ : Option zA → zM → Prop} {m : zM} {q : Nat} {c : Nat} {b : Int} {v : Nat} {lo : zL} (hlo : z_keep [0, 1, 2, 3, 4] lo = [(0, zr 74), (1, zi (q : Int)), (2, zi (c : Int)), (3, zi b), (4, zi (v : Int))])  (hB : zB m) (h_q : q ≤ 26) (h_c : c ≤ 100) (h_b : (-1) ≤ b ∧ b ≤ 108) (h_v : v ≤ 100) 
    (k1 : 99 < (v : Int) → κ (some (zi (c : Int))) m)
    (k2 : ¬ 99 < (v : Int) → T (D + 4) 269 (20, [(0, zr 74), (1, zi (q : Int)), (2, zi (c : Int)), (3, zi b), (4, zi (v : Int)), (5, zi 0), (6, zi 0)], [], m) κ) :
    T (D + 4) 269 (7, lo, [], m) κ := by
  have he0 : wr (v : Int) = (v : Int) := wr_id (by omega) (by omega)
  have he1 : wr (c : Int) = (c : Int) := wr_id (by omega) (by omega)
  have key := @zb269_7r T hT D κ m q c b v lo hlo
  simp only [he0, he1, Int.toNat_natCast] at key
  exact key
    k1
    k2
theorem zb269_20r (hT : zRules T) {D : Nat} {κ : Option zA → zM → Prop} {m : zM} {q : Nat} {c : Nat} {b : Int} {v : Nat} {f : Int} {i : Nat} {lo : zL} (hlo : z_keep [0, 1, 2, 3, 4, 5, 6] lo = [(0, zr 74), (1, zi (q : Int)), (2, zi (c : Int)), (3, zi b), (4, zi (v : Int)), (5, zi f), (6, zi (i : Int))]) 
    (o1 : ¬ wr (i : Int) < wr (m 74 49) → wr f = 0 → T (D + 4) 269 (7, [(0, zr 74), (1, zi (q : Int)), (2, zi (c : Int)), (3, zi b), (4, zi ((v : Int) + 1))], [], m) κ)
    (o2 : ¬ wr (i : Int) < wr (m 74 49) → ¬ wr f = 0 → T (D + 3) 268 (0, [(0, zr 74), (1, zi (v : Int)), (2, zi (q : Int))], [], m) (fun r m1 => T (D + 4) 269 (69, [(0, zr 74), (1, zi (q : Int)), (2, zi (c : Int)), (3, zi b), (4, zi (v : Int)), (5, zi f), (6, zi (i : Int))], r.toList ++ [], m1) κ))
    (o3 : wr (i : Int) < wr (m 74 49) → (0 ≤ wr (i : Int) ∧ wr (i : Int) < 26))
    (o4 : wr (i : Int) < wr (m 74 49) → ¬ wr (m 97 ((wr (i : Int)).toNat)) = wr (v : Int) → T (D + 4) 269 (20, [(0, zr 74), (1, zi (q : Int)), (2, zi (c : Int)), (3, zi b), (4, zi (v : Int)), (5, zi (z_or f 0)), (6, zi ((i : Int) + 1))], [], m) κ)
    (o5 : wr (i : Int) < wr (m 74 49) → wr (m 97 ((wr (i : Int)).toNat)) = wr (v : Int) → T (D + 4) 269 (20, [(0, zr 74), (1, zi (q : Int)), (2, zi (c : Int)), (3, zi b), (4, zi (v : Int)), (5, zi (z_or f 1)), (6, zi ((i : Int) + 1))], [], m) κ) :
    T (D + 4) 269 (20, lo, [], m) κ :=
  zkeep hT hlo (hT.1 [(7, [0, 1, 2, 3, 4]), (20, [0, 1, 2, 3, 4, 5, 6])] 6 (D + 4) 269 _ κ (And.intro (fun a1 => (And.intro (fun a3 => (hT.1 [(7, [0, 1, 2, 3, 4]), (20, [0, 1, 2, 3, 4, 5, 6])] 6 (D + 4) 269 (103, [(0, zr 74), (1, zi (q : Int)), (2, zi (c : Int)), (3, zi b), (4, zi (v : Int)), (5, zi f), (6, zi (i : Int))], [], m) _ (o1 a1 a3))) (fun a4 => (hT.1 [(7, [0, 1, 2, 3, 4]), (20, [0, 1, 2, 3, 4, 5, 6])] 6 (D + 4) 269 (62, [(0, zr 74), (1, zi (q : Int)), (2, zi (c : Int)), (3, zi b), (4, zi (v : Int)), (5, zi f), (6, zi (i : Int))], [], m) _ (o2 a1 a4))))) (fun a2 => (hT.1 [(7, [0, 1, 2, 3, 4]), (20, [0, 1, 2, 3, 4, 5, 6])] 6 (D + 4) 269 (32, [(0, zr 74), (1, zi (q : Int)), (2, zi (c : Int)), (3, zi b), (4, zi (v : Int)), (5, zi f), (6, zi (i : Int))], [zr 74, zi f], m) _ (And.intro (o3 (Classical.byContradiction a2)) (And.intro (fun a5 => (hT.1 [(7, [0, 1, 2, 3, 4]), (20, [0, 1, 2, 3, 4, 5, 6])] 6 (D + 4) 269 (48, [(0, zr 74), (1, zi (q : Int)), (2, zi (c : Int)), (3, zi b), (4, zi (v : Int)), (5, zi f), (6, zi (i : Int))], [zi 0, zi f], m) _ (o4 (Classical.byContradiction a2) a5))) (fun a6 => (hT.1 [(7, [0, 1, 2, 3, 4]), (20, [0, 1, 2, 3, 4, 5, 6])] 6 (D + 4) 269 (44, [(0, zr 74), (1, zi (q : Int)), (2, zi (c : Int)), (3, zi b), (4, zi (v : Int)), (5, zi f), (6, zi (i : Int))], [zi 1, zi f], m) _ (o5 (Classical.byContradiction a2) (Classical.byContradiction a6))))))))))
theorem zb269_20 (hT : zRules T) {D : Nat} {κ : Option zA → zM → Prop} {m : zM} {q : Nat} {c : Nat} {b : Int} {v : Nat} {f : Int} {i : Nat} {lo : zL} (hlo : z_keep [0, 1, 2, 3, 4, 5, 6] lo = [(0, zr 74), (1, zi (q : Int)), (2, zi (c : Int)), (3, zi b), (4, zi (v : Int)), (5, zi f), (6, zi (i : Int))])  (hB : zB m) (h_q : q ≤ 26) (h_c : c ≤ 100) (h_b : (-1) ≤ b ∧ b ≤ 108) (h_v : v ≤ 99) (h_f : 0 ≤ f ∧ f ≤ 1) (h_i : i ≤ 60) 
    (k1 : ¬ (i : Int) < (m 74 49) → f = 0 → T (D + 4) 269 (7, [(0, zr 74), (1, zi (q : Int)), (2, zi (c : Int)), (3, zi b), (4, zi ((v : Int) + 1))], [], m) κ)
    (k2 : ¬ (i : Int) < (m 74 49) → ¬ f = 0 → T (D + 3) 268 (0, [(0, zr 74), (1, zi (v : Int)), (2, zi (q : Int))], [], m) (fun r m1 => T (D + 4) 269 (69, [(0, zr 74), (1, zi (q : Int)), (2, zi (c : Int)), (3, zi b), (4, zi (v : Int)), (5, zi f), (6, zi (i : Int))], r.toList ++ [], m1) κ))
    (k3 : (i : Int) < (m 74 49) → ¬ (m 97 i) = (v : Int) → T (D + 4) 269 (20, [(0, zr 74), (1, zi (q : Int)), (2, zi (c : Int)), (3, zi b), (4, zi (v : Int)), (5, zi (z_or f 0)), (6, zi ((i : Int) + 1))], [], m) κ)
    (k4 : (i : Int) < (m 74 49) → (m 97 i) = (v : Int) → T (D + 4) 269 (20, [(0, zr 74), (1, zi (q : Int)), (2, zi (c : Int)), (3, zi b), (4, zi (v : Int)), (5, zi (z_or f 1)), (6, zi ((i : Int) + 1))], [], m) κ) :
    T (D + 4) 269 (20, lo, [], m) κ := by
  have hb6 : 0 ≤ (m 74 49) ∧ (m 74 49) ≤ 26 := hB 74 49
  have hb7 : 0 ≤ (m 97 i) ∧ (m 97 i) ≤ 99 := hB 97 i
  have hb8 : (-2147483648) ≤ (z_or f 1) ∧ (z_or f 1) ≤ 2147483647 := z_orB f 1
  have hb9 : (-2147483648) ≤ (z_or f 0) ∧ (z_or f 0) ≤ 2147483647 := z_orB f 0
  have he0 : wr (i : Int) = (i : Int) := wr_id (by omega) (by omega)
  have he1 : wr (m 74 49) = (m 74 49) := wr_id (by omega) (by omega)
  have he2 : (i : Int).toNat = i := by omega
  have he3 : wr (m 97 i) = (m 97 i) := wr_id (by omega) (by omega)
  have he4 : wr (v : Int) = (v : Int) := wr_id (by omega) (by omega)
  have he5 : wr f = f := wr_id (by omega) (by omega)
  have key := @zb269_20r T hT D κ m q c b v f i lo hlo
  simp only [he0, he1, he2, he3, he4, he5, Int.toNat_natCast] at key
  exact key
    k1
    k2
    (fun x0 => by refine ⟨?_, ?_⟩ <;> omega)
    k3
    k4
theorem zb269_69r (hT : zRules T) {D : Nat} {κ : Option zA → zM → Prop} {m : zM} {q : Nat} {c : Nat} {b : Int} {v : Nat} {f : Int} {lo : zL} (hlo : z_keep [0, 1, 2, 3, 4] lo = [(0, zr 74), (1, zi (q : Int)), (2, zi (c : Int)), (3, zi b), (4, zi (v : Int))]) 
    (o1 : ¬ wr f = 0 → T (D + 4) 269 (7, [(0, zr 74), (1, zi (q : Int)), (2, zi (c : Int)), (3, zi b), (4, zi ((v : Int) + 1))], [], m) κ)
    (o2 : wr f = 0 → wr b = (-1) → T (D + 4) 269 (7, [(0, zr 74), (1, zi (q : Int)), (2, zi ((c : Int) + 1)), (3, zi ((v : Int) + (m 79 0))), (4, zi ((v : Int) + 1))], [], m) κ)
    (o3 : wr f = 0 → ¬ wr b = (-1) → wr b < wr (v : Int) → T (D + 4) 269 (7, [(0, zr 74), (1, zi (q : Int)), (2, zi ((c : Int) + 1)), (3, zi ((v : Int) + (m 79 0))), (4, zi ((v : Int) + 1))], [], m) κ)
    (o4 : wr f = 0 → ¬ wr b = (-1) → ¬ wr b < wr (v : Int) → wr ((v : Int) + (m 79 0)) < wr b → T (D + 4) 269 (7, [(0, zr 74), (1, zi (q : Int)), (2, zi ((c : Int) + 1)), (3, zi ((v : Int) + (m 79 0))), (4, zi ((v : Int) + 1))], [], m) κ)
    (o5 : wr f = 0 → ¬ wr b = (-1) → ¬ wr b < wr (v : Int) → ¬ wr ((v : Int) + (m 79 0)) < wr b → T (D + 4) 269 (7, [(0, zr 74), (1, zi (q : Int)), (2, zi (c : Int)), (3, zi b), (4, zi ((v : Int) + 1))], [], m) κ) :
    T (D + 4) 269 (69, lo, [zi f], m) κ :=
  zkeep hT hlo (hT.1 [(7, [0, 1, 2, 3, 4]), (20, [0, 1, 2, 3, 4, 5, 6])] 6 (D + 4) 269 _ κ (And.intro (fun a1 => (o1 a1)) (fun a2 => (And.intro (fun a3 => (hT.1 [(7, [0, 1, 2, 3, 4]), (20, [0, 1, 2, 3, 4, 5, 6])] 6 (D + 4) 269 (93, [(0, zr 74), (1, zi (q : Int)), (2, zi (c : Int)), (3, zi b), (4, zi (v : Int))], [zr 74, zi (v : Int)], m) _ (And.intro (z_ixL rfl) (hT.1 [(7, [0, 1, 2, 3, 4]), (20, [0, 1, 2, 3, 4, 5, 6])] 6 (D + 4) 269 (103, [(0, zr 74), (1, zi (q : Int)), (2, zi ((c : Int) + 1)), (3, zi ((v : Int) + (m 79 0))), (4, zi (v : Int))], [], m) _ (o2 (Classical.byContradiction a2) a3))))) (fun a4 => (hT.1 [(7, [0, 1, 2, 3, 4]), (20, [0, 1, 2, 3, 4, 5, 6])] 6 (D + 4) 269 (79, [(0, zr 74), (1, zi (q : Int)), (2, zi (c : Int)), (3, zi b), (4, zi (v : Int))], [zi b, zr 74], m) _ (hT.1 [] 6 (D + 3) 252 _ _ (hT.1 [] 6 (D + 3) 252 (8, [(0, zr 74), (1, zi b), (2, zi (v : Int))], [zi 0, zr 79, zi (v : Int), zi (v : Int), zi b], m) _ (And.intro (z_ixL rfl) (hT.1 [] 6 (D + 2) 186 _ _ (And.intro (fun a5 => (And.intro (z_b01L rfl) (hT.1 [] 6 (D + 3) 252 _ _ (And.intro (z_b01L rfl) (hT.1 [(7, [0, 1, 2, 3, 4]), (20, [0, 1, 2, 3, 4, 5, 6])] 6 (D + 4) 269 _ _ (And.intro (fun _ => (And.intro (z_ixL rfl) (hT.1 [(7, [0, 1, 2, 3, 4]), (20, [0, 1, 2, 3, 4, 5, 6])] 6 (D + 4) 269 (98, [(0, zr 74), (1, zi (q : Int)), (2, zi (c : Int)), (3, zi b), (4, zi (v : Int))], [zi (m 79 0), zi (v : Int)], m) _ (o3 (Classical.byContradiction a2) a4 a5)))) (fun a7 => (a7 (z_litT rfl)).elim))))))) (fun a6 => (And.intro (fun a8 => (hT.1 [] 6 (D + 2) 186 (14, [(0, zi b), (1, zi (v : Int)), (2, zi ((v : Int) + (m 79 0)))], [], m) _ (And.intro (z_b01L rfl) (hT.1 [] 6 (D + 3) 252 _ _ (And.intro (z_b01L rfl) (hT.1 [(7, [0, 1, 2, 3, 4]), (20, [0, 1, 2, 3, 4, 5, 6])] 6 (D + 4) 269 _ _ (And.intro (fun _ => (And.intro (z_ixL rfl) (hT.1 [(7, [0, 1, 2, 3, 4]), (20, [0, 1, 2, 3, 4, 5, 6])] 6 (D + 4) 269 (98, [(0, zr 74), (1, zi (q : Int)), (2, zi (c : Int)), (3, zi b), (4, zi (v : Int))], [zi (m 79 0), zi (v : Int)], m) _ (o4 (Classical.byContradiction a2) a4 a6 a8)))) (fun a10 => (a10 (z_litT rfl)).elim)))))))) (fun a9 => (hT.1 [] 6 (D + 2) 186 (10, [(0, zi b), (1, zi (v : Int)), (2, zi ((v : Int) + (m 79 0)))], [], m) _ (And.intro (z_b01L rfl) (hT.1 [] 6 (D + 3) 252 _ _ (And.intro (z_b01L rfl) (hT.1 [(7, [0, 1, 2, 3, 4]), (20, [0, 1, 2, 3, 4, 5, 6])] 6 (D + 4) 269 _ _ (And.intro (fun a11 => (z_litF a11 rfl).elim) (fun _ => (o5 (Classical.byContradiction a2) a4 a6 a9))))))))))))))))))))))
theorem zb269_69 (hT : zRules T) {D : Nat} {κ : Option zA → zM → Prop} {m : zM} {q : Nat} {c : Nat} {b : Int} {v : Nat} {f : Int} {lo : zL} (hlo : z_keep [0, 1, 2, 3, 4] lo = [(0, zr 74), (1, zi (q : Int)), (2, zi (c : Int)), (3, zi b), (4, zi (v : Int))])  (hB : zB m) (h_q : q ≤ 26) (h_c : c ≤ 100) (h_b : (-1) ≤ b ∧ b ≤ 108) (h_v : v ≤ 99) (h_f : 0 ≤ f ∧ f ≤ 1) 
    (k1 : ¬ f = 0 → T (D + 4) 269 (7, [(0, zr 74), (1, zi (q : Int)), (2, zi (c : Int)), (3, zi b), (4, zi ((v : Int) + 1))], [], m) κ)
    (k2 : f = 0 → b = (-1) → T (D + 4) 269 (7, [(0, zr 74), (1, zi (q : Int)), (2, zi ((c : Int) + 1)), (3, zi ((v : Int) + (m 79 0))), (4, zi ((v : Int) + 1))], [], m) κ)
    (k3 : f = 0 → ¬ b = (-1) → b < (v : Int) → T (D + 4) 269 (7, [(0, zr 74), (1, zi (q : Int)), (2, zi ((c : Int) + 1)), (3, zi ((v : Int) + (m 79 0))), (4, zi ((v : Int) + 1))], [], m) κ)
    (k4 : f = 0 → ¬ b = (-1) → ¬ b < (v : Int) → ((v : Int) + (m 79 0)) < b → T (D + 4) 269 (7, [(0, zr 74), (1, zi (q : Int)), (2, zi ((c : Int) + 1)), (3, zi ((v : Int) + (m 79 0))), (4, zi ((v : Int) + 1))], [], m) κ)
    (k5 : f = 0 → ¬ b = (-1) → ¬ b < (v : Int) → ¬ ((v : Int) + (m 79 0)) < b → T (D + 4) 269 (7, [(0, zr 74), (1, zi (q : Int)), (2, zi (c : Int)), (3, zi b), (4, zi ((v : Int) + 1))], [], m) κ) :
    T (D + 4) 269 (69, lo, [zi f], m) κ := by
  have hb5 : 0 ≤ (m 79 0) ∧ (m 79 0) ≤ 9 := hB 79 0
  have he0 : wr f = f := wr_id (by omega) (by omega)
  have he1 : wr b = b := wr_id (by omega) (by omega)
  have he2 : wr (v : Int) = (v : Int) := wr_id (by omega) (by omega)
  have he3 : wr ((v : Int) + (m 79 0)) = ((v : Int) + (m 79 0)) := wr_id (by omega) (by omega)
  have key := @zb269_69r T hT D κ m q c b v f lo hlo
  simp only [he0, he1, he2, he3, Int.toNat_natCast] at key
  exact key
    k1
    k2
    k3
    k4
    k5
end ZBlocks
end
-- 9j.wanting.lean.txt
section
/-! The reference's wanting(), as the greedy count of numbers. -/
section ZWanting
variable {T : Nat → Nat → zG → (Option zA → zM → Prop) → Prop} {B : Int}
noncomputable abbrev tkT (m : zM) : Nat → Int := fun j => wr (m 98 j)
theorem z_isServed (hT : zRules T) {D : Nat} {κ : Option zA → zM → Prop} {m : zM} {v : Int} {q : Nat} (hB : zB m) (hv : 0 ≤ v ∧ v ≤ 99) (hq : q ≤ 26) (hk : ∀ f : Int, ((f = 1 ∧ y_srv (tkT m) (m 79 0) q v) ∨ (f = 0 ∧ ¬ y_srv (tkT m) (m 79 0) q v)) → κ (some (zi f)) m) : T (D + 3) 268 (0, [(0, zr 74), (1, zi v), (2, zi (q : Int))], [], m) κ := by
  have key : ∀ (j t : Nat), t + j = q → (∀ i : Nat, i < t → ¬ (v ≤ tkT m i ∧ tkT m i ≤ v + m 79 0)) → T (D + 3) 268 (2, [(0, zr 74), (1, zi v), (2, zi (q : Int)), (3, zi (t : Int))], [], m) κ := by
    intro j
    induction j with
    | zero =>
      intro t ht hn
      exact zb268_2 hT rfl hB hv hq (by omega) (fun _ => hk 0 (Or.inr ⟨rfl, fun ⟨i, h1, h2⟩ => hn i (by omega) h2⟩)) (fun x => by omega) (fun x => by omega) (fun x => by omega)
    | succ j ih =>
      intro t ht hn
      have nx : ¬ (v ≤ tkT m t ∧ tkT m t ≤ v + m 79 0) → T (D + 3) 268 (2, [(0, zr 74), (1, zi v), (2, zi (q : Int)), (3, zi ((t : Int) + 1))], [], m) κ := fun h => ih (t + 1) (by omega) (fun i hi => by
        by_cases e : i = t
        · rw [e]
          exact h
        · exact hn i (by omega))
      exact zb268_2 hT rfl hB hv hq (by omega) (fun x => by omega) (fun _ x => nx (fun h => by have h1 : v ≤ wr (m 98 t) := h.1; omega)) (fun _ _ x => nx (fun h => by have h1 : wr (m 98 t) ≤ v + m 79 0 := h.2; omega)) (fun _ x y => hk 1 (Or.inl ⟨rfl, t, by omega, (by show v ≤ wr (m 98 t); omega), (by show wr (m 98 t) ≤ v + m 79 0; omega)⟩))
  exact zb268_0 hT hB hv hq (key q 0 (by omega) (fun i hi => by omega))
theorem z_wanting (hT : zRules T) {D : Nat} {κ : Option zA → zM → Prop} {m : zM} {q N : Nat} (hB : zB m) (hq : q ≤ 26) (hN : m 74 49 = (N : Int)) (hN2 : N ≤ 60) (hk : κ (some (zi (y_want (m 97) (tkT m) (m 79 0) (N : Int) (q : Int)))) m) : T (D + 4) 269 (0, [(0, zr 74), (1, zi (q : Int))], [], m) κ := by
  have b79 : 0 ≤ m 79 0 ∧ m 79 0 ≤ 9 := hB 79 0
  have key : ∀ (j v : Nat), v + j = 100 → T (D + 4) 269 (7, [(0, zr 74), (1, zi (q : Int)), (2, zi (y_w (y_A (m 97) (tkT m) (m 79 0) (N : Int) (q : Int)) (m 79 0) v).1), (3, zi (y_w (y_A (m 97) (tkT m) (m 79 0) (N : Int) (q : Int)) (m 79 0) v).2), (4, zi (v : Int))], [], m) κ := by
    intro j
    induction j with
    | zero =>
      intro v hv
      have ev : v = 100 := by omega
      subst ev
      have h1 := y_wB (y_A (m 97) (tkT m) (m 79 0) (N : Int) (q : Int)) (m 79 0) 100
      have h2 := (y_wL (y_A (m 97) (tkT m) (m 79 0) (N : Int) (q : Int)) (m 79 0) b79.1 100).2
      have b108 : (y_w (y_A (m 97) (tkT m) (m 79 0) (N : Int) (q : Int)) (m 79 0) (99 + 1)).2 ≤ 108 := by
        have h3 := (y_wL (y_A (m 97) (tkT m) (m 79 0) (N : Int) (q : Int)) (m 79 0) b79.1 99).2
        rcases y_wS (y_A (m 97) (tkT m) (m 79 0) (N : Int) (q : Int)) (m 79 0) 99 with ⟨_, e⟩ | ⟨_, e⟩
        · rw [e]
          dsimp only
          omega
        · rw [e]
          omega
      rw [show 99 + 1 = 100 from rfl] at b108
      unfold y_want at hk
      generalize (y_w (y_A (m 97) (tkT m) (m 79 0) (N : Int) (q : Int)) (m 79 0) 100).2 = b at h2 b108
      generalize (y_w (y_A (m 97) (tkT m) (m 79 0) (N : Int) (q : Int)) (m 79 0) 100).1 = c at h1 hk ⊢
      obtain ⟨c', rfl⟩ : ∃ c' : Nat, c = (c' : Int) := ⟨c.toNat, by omega⟩
      exact zb269_7 hT rfl hB hq (by omega) (by omega) (by omega) (fun _ => hk) (fun x => by omega)
    | succ j ih =>
      intro v hv
      have h1 := y_wB (y_A (m 97) (tkT m) (m 79 0) (N : Int) (q : Int)) (m 79 0) v
      have h2 := (y_wL (y_A (m 97) (tkT m) (m 79 0) (N : Int) (q : Int)) (m 79 0) b79.1 v).2
      have h3 := y_wS (y_A (m 97) (tkT m) (m 79 0) (N : Int) (q : Int)) (m 79 0) v
      have ih2 := ih (v + 1) (by omega)
      have hb108 : (y_w (y_A (m 97) (tkT m) (m 79 0) (N : Int) (q : Int)) (m 79 0) v).2 ≤ 108 := by omega
      generalize hc : (y_w (y_A (m 97) (tkT m) (m 79 0) (N : Int) (q : Int)) (m 79 0) v).2 = b at h2 h3 hb108 ⊢
      generalize hc2 : (y_w (y_A (m 97) (tkT m) (m 79 0) (N : Int) (q : Int)) (m 79 0) v).1 = c at h1 h3 ⊢
      obtain ⟨c', rfl⟩ : ∃ c' : Nat, c = (c' : Int) := ⟨c.toNat, by omega⟩
      have same : ¬ (y_A (m 97) (tkT m) (m 79 0) (N : Int) (q : Int) (v : Int) ∧ ¬ ((v : Int) ≤ b ∧ b ≤ (v : Int) + m 79 0)) → T (D + 4) 269 (7, [(0, zr 74), (1, zi (q : Int)), (2, zi (c' : Int)), (3, zi b), (4, zi ((v : Int) + 1))], [], m) κ := fun hn => by
        rcases h3 with ⟨h, _⟩ | ⟨_, e⟩
        · exact absurd h hn
        · rw [e, hc, hc2] at ih2
          exact ih2
      have more : (y_A (m 97) (tkT m) (m 79 0) (N : Int) (q : Int) (v : Int) ∧ ¬ ((v : Int) ≤ b ∧ b ≤ (v : Int) + m 79 0)) → T (D + 4) 269 (7, [(0, zr 74), (1, zi (q : Int)), (2, zi ((c' : Int) + 1)), (3, zi ((v : Int) + m 79 0)), (4, zi ((v : Int) + 1))], [], m) κ := fun hy => by
        rcases h3 with ⟨_, e⟩ | ⟨h, _⟩
        · rw [e] at ih2
          exact ih2
        · exact absurd hy h
      refine zb269_7 hT rfl hB hq (by omega) (by omega) (by omega) (fun x => by omega) (fun _ => ?_)
      have inner : ∀ (i t : Nat) (f : Int), t + i = N → ((f = 1 ∧ ∃ k : Nat, k < t ∧ m 97 k = (v : Int)) ∨ (f = 0 ∧ ¬ ∃ k : Nat, k < t ∧ m 97 k = (v : Int))) → T (D + 4) 269 (20, [(0, zr 74), (1, zi (q : Int)), (2, zi (c' : Int)), (3, zi b), (4, zi (v : Int)), (5, zi f), (6, zi (t : Int))], [], m) κ := by
        intro i
        induction i with
        | zero =>
          intro t f ht hf
          have et : t = N := by omega
          subst et
          refine zb269_20 hT rfl hB hq (by omega) (by omega) (by omega) (by omega) (by omega) (fun _ f0 => ?_) (fun _ f0 => ?_) (fun x => by omega) (fun x => by omega)
          · refine same (fun hy => ?_)
            rcases hf with ⟨h, _⟩ | ⟨_, h⟩
            · omega
            · obtain ⟨⟨⟨k, k1, k2⟩, _⟩, _⟩ := hy
              exact h ⟨k, by omega, k2⟩
          · have hP : ∃ k : Nat, k < t ∧ m 97 k = (v : Int) := by
              rcases hf with ⟨_, h⟩ | ⟨h, _⟩
              · exact h
              · exact absurd h f0
            refine z_isServed hT hB (by omega) hq (fun g hg => ?_)
            have hno : g = 0 → y_A (m 97) (tkT m) (m 79 0) (t : Int) (q : Int) (v : Int) := fun g0 => by
              obtain ⟨k, k1, k2⟩ := hP
              refine ⟨⟨k, by omega, k2⟩, ?_⟩
              rcases hg with ⟨h, _⟩ | ⟨_, h⟩
              · omega
              · exact h
            refine zb269_69 hT rfl hB hq (by omega) (by omega) (by omega) (by omega) (fun g0 => ?_) (fun g0 x => more ⟨hno g0, by omega⟩) (fun g0 _ x => more ⟨hno g0, by omega⟩) (fun g0 _ _ x => more ⟨hno g0, by omega⟩) (fun g0 _ x y => same (fun hy => hy.2 ⟨by omega, by omega⟩))
            refine same (fun hy => hy.1.2 ?_)
            rcases hg with ⟨_, h⟩ | ⟨h, _⟩
            · exact h
            · exact absurd h g0
        | succ i ih3 =>
          intro t f ht hf
          have o0 : z_or f 0 = f := by
            rcases hf with ⟨h, _⟩ | ⟨h, _⟩
            · rw [h]
              decide +kernel
            · rw [h]
              decide +kernel
          have o1 : z_or f 1 = 1 := by
            rcases hf with ⟨h, _⟩ | ⟨h, _⟩
            · rw [h]
              decide +kernel
            · rw [h]
              decide +kernel
          refine zb269_20 hT rfl hB hq (by omega) (by omega) (by omega) (by omega) (by omega) (fun x => by omega) (fun x => by omega) (fun _ x => ?_) (fun _ x => ?_)
          · rw [o0]
            refine ih3 (t + 1) f (by omega) ?_
            rcases hf with ⟨h, k, k1, k2⟩ | ⟨h, h0⟩
            · exact Or.inl ⟨h, k, by omega, k2⟩
            · refine Or.inr ⟨h, fun ⟨k, k1, k2⟩ => ?_⟩
              by_cases e : k = t
              · rw [e] at k2
                exact x k2
              · exact h0 ⟨k, by omega, k2⟩
          · rw [o1]
            exact ih3 (t + 1) 1 (by omega) (Or.inl ⟨rfl, t, by omega, x⟩)
      exact inner N 0 0 (by omega) (Or.inr ⟨rfl, fun ⟨k, k1, _⟩ => by omega⟩)
  exact zb269_0 hT hB hq (key 100 0 (by omega))
end ZWanting
end
-- 9k.b22.lean.txt
section
section ZBlocks
variable {T : Nat → Nat → zG → (Option zA → zM → Prop) → Prop}
theorem zb270_0r (hT : zRules T) {D : Nat} {κ : Option zA → zM → Prop} {m : zM} 
    (o1 : T (D + 4) 269 (0, [(0, zr 74), (1, zi 0)], [], m) (fun r m1 => T (D + 5) 270 (5, [(0, zr 74)], r.toList ++ [], m1) κ)) :
    T (D + 5) 270 (0, [(0, zr 74)], [], m) κ :=
  hT.1 [(10, [0, 1, 2, 3]), (22, [0, 1, 3])] 6 (D + 5) 270 _ κ (o1)
theorem zb270_0 (hT : zRules T) {D : Nat} {κ : Option zA → zM → Prop} {m : zM}  (hB : zB m) 
    (k1 : T (D + 4) 269 (0, [(0, zr 74), (1, zi 0)], [], m) (fun r m1 => T (D + 5) 270 (5, [(0, zr 74)], r.toList ++ [], m1) κ)) :
    T (D + 5) 270 (0, [(0, zr 74)], [], m) κ := by
  exact zb270_0r hT
    k1
theorem zb270_5r (hT : zRules T) {D : Nat} {κ : Option zA → zM → Prop} {m : zM} {n : Nat} {lo : zL} (hlo : z_keep [0] lo = [(0, zr 74)]) 
    (o1 : T (D + 5) 270 (10, [(0, zr 74), (1, zi (n : Int)), (2, zi 0), (3, zi 0)], [], m) κ) :
    T (D + 5) 270 (5, lo, [zi (n : Int)], m) κ :=
  zkeep hT hlo (hT.1 [(10, [0, 1, 2, 3]), (22, [0, 1, 3])] 6 (D + 5) 270 _ κ (o1))
theorem zb270_5 (hT : zRules T) {D : Nat} {κ : Option zA → zM → Prop} {m : zM} {n : Nat} {lo : zL} (hlo : z_keep [0] lo = [(0, zr 74)])  (hB : zB m) (h_n : n ≤ 60) 
    (k1 : T (D + 5) 270 (10, [(0, zr 74), (1, zi (n : Int)), (2, zi 0), (3, zi 0)], [], m) κ) :
    T (D + 5) 270 (5, lo, [zi (n : Int)], m) κ := by
  exact zb270_5r hT hlo
    k1
theorem zb270_10r (hT : zRules T) {D : Nat} {κ : Option zA → zM → Prop} {m : zM} {n : Nat} {a : Int} {i : Nat} {lo : zL} (hlo : z_keep [0, 1, 2, 3] lo = [(0, zr 74), (1, zi (n : Int)), (2, zi a), (3, zi (i : Int))]) 
    (o1 : ¬ wr (i : Int) < wr (n : Int) → κ (some (zi (wr (n : Int)))) m)
    (o2 : wr (i : Int) < wr (n : Int) → (0 ≤ wr (i : Int) ∧ wr (i : Int) < 26))
    (o3 : wr (i : Int) < wr (n : Int) → T (D + 5) 270 (22, [(0, zr 74), (1, zi (n : Int)), (3, zi (i : Int))], [], (zu m 98 ((wr (i : Int)).toNat) a)) κ) :
    T (D + 5) 270 (10, lo, [], m) κ :=
  zkeep hT hlo (hT.1 [(10, [0, 1, 2, 3]), (22, [0, 1, 3])] 6 (D + 5) 270 _ κ (And.intro (fun a1 => (o1 a1)) (fun a2 => (hT.1 [(10, [0, 1, 2, 3]), (22, [0, 1, 3])] 6 (D + 5) 270 (20, [(0, zr 74), (1, zi (n : Int)), (2, zi a), (3, zi (i : Int))], [zi (i : Int), zr 98], m) _ (And.intro (And.intro (o2 (Classical.byContradiction a2)) trivial) (o3 (Classical.byContradiction a2)))))))
theorem zb270_10 (hT : zRules T) {D : Nat} {κ : Option zA → zM → Prop} {m : zM} {n : Nat} {a : Int} {i : Nat} {lo : zL} (hlo : z_keep [0, 1, 2, 3] lo = [(0, zr 74), (1, zi (n : Int)), (2, zi a), (3, zi (i : Int))])  (hB : zB m) (h_n : n ≤ 60) (h_a : 0 ≤ a ∧ a ≤ 140) (h_i : i ≤ 60) 
    (k1 : ¬ (i : Int) < (n : Int) → κ (some (zi (n : Int))) m)
    (k2 : (i : Int) < (n : Int) → (0 ≤ (i : Int) ∧ (i : Int) < 26))
    (k3 : (i : Int) < (n : Int) → zB (zu m 98 i a) → T (D + 5) 270 (22, [(0, zr 74), (1, zi (n : Int)), (3, zi (i : Int))], [], (zu m 98 i a)) κ) :
    T (D + 5) 270 (10, lo, [], m) κ := by
  have he0 : wr (i : Int) = (i : Int) := wr_id (by omega) (by omega)
  have he1 : wr (n : Int) = (n : Int) := wr_id (by omega) (by omega)
  have he2 : (i : Int).toNat = i := by omega
  have key := @zb270_10r T hT D κ m n a i lo hlo
  simp only [he0, he1, he2, Int.toNat_natCast] at key
  exact key
    k1
    k2
    (fun x0 => k3 x0 (zB_u hB trivial))
theorem zb270_22r (hT : zRules T) {D : Nat} {κ : Option zA → zM → Prop} {m : zM} {n : Nat} {i : Nat} {lo : zL} (hlo : z_keep [0, 1, 3] lo = [(0, zr 74), (1, zi (n : Int)), (3, zi (i : Int))]) 
    (o1 : T (D + 4) 269 (0, [(0, zr 74), (1, zi ((i : Int) + 1))], [], m) (fun r m1 => T (D + 5) 270 (29, [(0, zr 74), (1, zi (n : Int)), (3, zi (i : Int))], r.toList ++ [], m1) κ)) :
    T (D + 5) 270 (22, lo, [], m) κ :=
  zkeep hT hlo (hT.1 [(10, [0, 1, 2, 3]), (22, [0, 1, 3])] 6 (D + 5) 270 _ κ (o1))
theorem zb270_22 (hT : zRules T) {D : Nat} {κ : Option zA → zM → Prop} {m : zM} {n : Nat} {i : Nat} {lo : zL} (hlo : z_keep [0, 1, 3] lo = [(0, zr 74), (1, zi (n : Int)), (3, zi (i : Int))])  (hB : zB m) (h_n : n ≤ 60) (h_i : i ≤ 25) 
    (k1 : T (D + 4) 269 (0, [(0, zr 74), (1, zi ((i : Int) + 1))], [], m) (fun r m1 => T (D + 5) 270 (29, [(0, zr 74), (1, zi (n : Int)), (3, zi (i : Int))], r.toList ++ [], m1) κ)) :
    T (D + 5) 270 (22, lo, [], m) κ := by
  exact zb270_22r hT hlo
    k1
theorem zb270_29r (hT : zRules T) {D : Nat} {κ : Option zA → zM → Prop} {m : zM} {n : Nat} {i : Nat} {w : Nat} {lo : zL} (hlo : z_keep [0, 1, 3] lo = [(0, zr 74), (1, zi (n : Int)), (3, zi (i : Int))]) 
    (o1 : ¬ wr (((n : Int) - (i : Int)) - 1) < wr (w : Int) → (0 ≤ wr (i : Int) ∧ wr (i : Int) < 26))
    (o2 : ¬ wr (((n : Int) - (i : Int)) - 1) < wr (w : Int) → T (D + 5) 270 (10, [(0, zr 74), (1, zi (n : Int)), (2, zi ((m 98 ((wr (i : Int)).toNat)) + 1)), (3, zi ((i : Int) + 1))], [], m) κ)
    (o3 : wr (((n : Int) - (i : Int)) - 1) < wr (w : Int) → (0 ≤ wr (i : Int) ∧ wr (i : Int) < 26))
    (o4 : wr (((n : Int) - (i : Int)) - 1) < wr (w : Int) → (0 ≤ wr (i : Int) ∧ wr (i : Int) < 26))
    (o5 : wr (((n : Int) - (i : Int)) - 1) < wr (w : Int) → T (D + 5) 270 (22, [(0, zr 74), (1, zi (n : Int)), (3, zi (i : Int))], [], (zu m 98 ((wr (i : Int)).toNat) ((m 98 ((wr (i : Int)).toNat)) + 1))) κ) :
    T (D + 5) 270 (29, lo, [zi (w : Int)], m) κ :=
  zkeep hT hlo (hT.1 [(10, [0, 1, 2, 3]), (22, [0, 1, 3])] 6 (D + 5) 270 _ κ (And.intro (fun a1 => (hT.1 [(10, [0, 1, 2, 3]), (22, [0, 1, 3])] 6 (D + 5) 270 (50, [(0, zr 74), (1, zi (n : Int)), (3, zi (i : Int))], [], m) _ (And.intro (o1 a1) (hT.1 [(10, [0, 1, 2, 3]), (22, [0, 1, 3])] 6 (D + 5) 270 (58, [(0, zr 74), (1, zi (n : Int)), (3, zi (i : Int))], [zi ((m 98 ((wr (i : Int)).toNat)) + 1)], m) _ (o2 a1))))) (fun a2 => (hT.1 [(10, [0, 1, 2, 3]), (22, [0, 1, 3])] 6 (D + 5) 270 (37, [(0, zr 74), (1, zi (n : Int)), (3, zi (i : Int))], [], m) _ (And.intro (o3 (Classical.byContradiction a2)) (hT.1 [(10, [0, 1, 2, 3]), (22, [0, 1, 3])] 6 (D + 5) 270 (45, [(0, zr 74), (1, zi (n : Int)), (3, zi (i : Int))], [zi 1, zi (m 98 ((wr (i : Int)).toNat)), zi (i : Int), zr 98], m) _ (And.intro (And.intro (o4 (Classical.byContradiction a2)) trivial) (o5 (Classical.byContradiction a2)))))))))
theorem zb270_29 (hT : zRules T) {D : Nat} {κ : Option zA → zM → Prop} {m : zM} {n : Nat} {i : Nat} {w : Nat} {lo : zL} (hlo : z_keep [0, 1, 3] lo = [(0, zr 74), (1, zi (n : Int)), (3, zi (i : Int))])  (hB : zB m) (h_n : n ≤ 60) (h_i : i ≤ 25) (h_w : w ≤ 100) (hf0 : 0 ≤ m 98 i ∧ m 98 i ≤ 140) 
    (k1 : ¬ (((n : Int) - (i : Int)) - 1) < (w : Int) → T (D + 5) 270 (10, [(0, zr 74), (1, zi (n : Int)), (2, zi ((m 98 i) + 1)), (3, zi ((i : Int) + 1))], [], m) κ)
    (k2 : (((n : Int) - (i : Int)) - 1) < (w : Int) → zB (zu m 98 i ((m 98 i) + 1)) → T (D + 5) 270 (22, [(0, zr 74), (1, zi (n : Int)), (3, zi (i : Int))], [], (zu m 98 i ((m 98 i) + 1))) κ) :
    T (D + 5) 270 (29, lo, [zi (w : Int)], m) κ := by
  have he0 : wr (((n : Int) - (i : Int)) - 1) = (((n : Int) - (i : Int)) - 1) := wr_id (by omega) (by omega)
  have he1 : wr (w : Int) = (w : Int) := wr_id (by omega) (by omega)
  have he2 : wr (i : Int) = (i : Int) := wr_id (by omega) (by omega)
  have he3 : (i : Int).toNat = i := by omega
  have key := @zb270_29r T hT D κ m n i w lo hlo
  simp only [he0, he1, he2, he3, Int.toNat_natCast] at key
  exact key
    (fun x0 => by refine ⟨?_, ?_⟩ <;> omega)
    k1
    (fun x0 => by refine ⟨?_, ?_⟩ <;> omega)
    (fun x0 => by refine ⟨?_, ?_⟩ <;> omega)
    (fun x0 => k2 x0 (zB_u hB trivial))
end ZBlocks
end
-- 9l.taken.lean.txt
section
/-! The reference's findTaken(): it ends. -/
section ZTaken
variable {T : Nat → Nat → zG → (Option zA → zM → Prop) → Prop} {B : Int}
theorem z_findTaken0 (hT : zRules T) {D : Nat} {κ : Option zA → zM → Prop} {m : zM} {N : Nat} (hB : zB m) (hN : m 74 49 = (N : Int)) (hN2 : N ≤ 26) (hk : ∀ (c : Nat) M, c ≤ N → zB M → zFr (inL [(98, none)]) m M → y_want (m 97) (tkT M) (m 79 0) (N : Int) (c : Int) ≤ 0 → κ (some (zi (c : Int))) M) : T (D + 5) 270 (0, [(0, zr 74)], [], m) κ := by
  have b79 : 0 ≤ m 79 0 ∧ m 79 0 ≤ 9 := hB 79 0
  have hL : ∀ k : Nat, (k : Int) < (N : Int) → 0 ≤ m 97 k ∧ m 97 k ≤ 99 := fun k _ => hB 97 k
  have wB := y_wantB (m 97) (tkT m) (m 79 0) (N : Int) ((0 : Nat) : Int)
  have wN := y_wantN (m 97) (tkT m) (m 79 0) ((0 : Nat) : Int) (n := (N : Int)) (by omega)
  refine zb270_0 (D := D) hT hB ?_
  refine z_wanting (q := 0) hT hB (by omega) hN (by omega) ?_
  generalize hmany : y_want (m 97) (tkT m) (m 79 0) (N : Int) ((0 : Nat) : Int) = many at wB wN ⊢
  obtain ⟨n, rfl⟩ : ∃ n : Nat, many = (n : Int) := ⟨many.toNat, by omega⟩
  refine zb270_5 (D := D) hT rfl hB (by omega) ?_
  have head : ∀ (j i : Nat) (a : Int) (M : zM), i + j = n → (0 ≤ a ∧ a ≤ 108 + i) → zB M → zFr (inL [(98, none)]) m M → y_want (m 97) (tkT M) (m 79 0) (N : Int) (i : Int) ≤ (n : Int) - i → (∀ v, y_A (m 97) (tkT M) (m 79 0) (N : Int) (i : Int) v → a ≤ v + m 79 0) → T (D + 5) 270 (10, [(0, zr 74), (1, zi (n : Int)), (2, zi a), (3, zi (i : Int))], [], M) κ := by
    intro j
    induction j with
    | zero =>
      intro i a M hi ha hBM hF hw hu
      exact zb270_10 (D := D) hT rfl hBM (by omega) (by omega) (by omega) (fun _ => hk n M (by omega) hBM hF (by
        have e : i = n := by omega
        rw [e] at hw
        omega)) (fun x => by omega) (fun x => by omega)
    | succ j ih =>
      intro i a M hi ha hBM hF hw hu
      refine zb270_10 (D := D) hT rfl hBM (by omega) (by omega) (by omega) (fun x => by omega) (fun _ => by omega) (fun _ hz => ?_)
      have inner : ∀ (r : Nat) (M : zM), (108 - M 98 i).toNat = r → (0 ≤ M 98 i ∧ M 98 i ≤ 108 + i) → zB M → zFr (inL [(98, none)]) m M → y_want (m 97) (tkT M) (m 79 0) (N : Int) (i : Int) ≤ (n : Int) - i → (∀ v, y_A (m 97) (tkT M) (m 79 0) (N : Int) (i : Int) v → M 98 i ≤ v + m 79 0) → T (D + 5) 270 (22, [(0, zr 74), (1, zi (n : Int)), (3, zi (i : Int))], [], M) κ := by
        intro r
        induction r using Nat.strongRecOn with
        | ind r ihr =>
          intro M hr hTi hBM hF hw hu
          have eT : tkT M i = M 98 i := wr_id (by omega) (by omega)
          have e97 : M 97 = m 97 := funext fun j => hF 97 j rfl
          have e79 : M 79 0 = m 79 0 := hF 79 0 rfl
          refine zb270_22 (D := D) hT rfl hBM (by omega) (by omega) ?_
          rw [show (i : Int) + 1 = ((i + 1 : Nat) : Int) by omega]
          refine z_wanting (q := i + 1) hT hBM (by omega) ((hF 74 49 rfl).trans hN) (by omega) ?_
          rw [e97, e79]
          have w1 := y_wantB (m 97) (tkT M) (m 79 0) (N : Int) ((i + 1 : Nat) : Int)
          generalize hw1 : y_want (m 97) (tkT M) (m 79 0) (N : Int) ((i + 1 : Nat) : Int) = w at w1 ⊢
          obtain ⟨w', rfl⟩ : ∃ w' : Nat, w = (w' : Int) := ⟨w.toNat, by omega⟩
          rw [show ((i + 1 : Nat) : Int) = (i : Int) + 1 by omega] at hw1
          refine zb270_29 (D := D) hT rfl hBM (by omega) (by omega) (by omega) (by omega) (fun x => ?_) (fun x hz2 => ?_)
          · refine ih (i + 1) _ M (by omega) (by omega) hBM hF ?_ (fun v hv => ?_)
            · rw [show ((i + 1 : Nat) : Int) = (i : Int) + 1 by omega, hw1]
              omega
            · rw [show ((i + 1 : Nat) : Int) = (i : Int) + 1 by omega] at hv
              have h1 := y_next (fun v hv => by rw [eT]; exact hu v hv) b79.1 v hv
              rw [eT] at h1
              exact h1
          · obtain ⟨s1, s2⟩ := y_stop (many := (n : Int)) b79 hL (by omega) hw (fun v hv => by rw [eT]; exact hu v hv) (by rw [hw1]; omega)
            rw [eT] at s1 s2
            have hsame : ∀ j : Nat, (j : Int) < (i : Int) → tkT (zu M 98 i (M 98 i + 1)) j = tkT M j := fun j hj => by
              show wr ((zu M 98 i (M 98 i + 1)) 98 j) = wr (M 98 j)
              rw [zu_off (by omega)]
            refine ihr (108 - (M 98 i + 1)).toNat (by omega) (zu M 98 i (M 98 i + 1)) (by rw [zu_sm rfl]) (by rw [zu_sm rfl]; omega) hz2 (hF.set rfl) ?_ (fun v hv => ?_)
            · rw [y_wantE (fun _ _ => rfl) hsame]
              exact hw
            · rw [zu_sm rfl]
              exact s2 v ((y_AE (fun _ _ => rfl) hsame v).mp hv)
      have hsame : ∀ j : Nat, (j : Int) < (i : Int) → tkT (zu M 98 i a) j = tkT M j := fun j hj => by
        show wr ((zu M 98 i a) 98 j) = wr (M 98 j)
        rw [zu_off (by omega)]
      refine inner _ (zu M 98 i a) rfl (by rw [zu_sm rfl]; omega) hz (hF.set rfl) ?_ (fun v hv => ?_)
      · rw [y_wantE (fun _ _ => rfl) hsame]
        exact hw
      · rw [zu_sm rfl]
        exact hu v ((y_AE (fun _ _ => rfl) hsame v).mp hv)
  refine head n 0 0 m (by omega) (by omega) hB zFr.refl (by rw [hmany]; omega) (fun v hv => ?_)
  obtain ⟨⟨k, k1, k2⟩, _⟩ := hv
  have := hL k k1
  omega
end ZTaken
end
-- 9m.b23.lean.txt
section
section ZBlocks
variable {T : Nat → Nat → zG → (Option zA → zM → Prop) → Prop}
theorem zb181_0r (hT : zRules T) {D : Nat} {κ : Option zA → zM → Prop} {m : zM} {p : Int} 
    (o1 : 80 < wr (m 2 1) → False)
    (o2 : ¬ 80 < wr (m 2 1) → wr p < 0 → κ (some (zi (-100))) (zu (zu (zu m 2 3 0) 2 2 (wr (m 2 1))) 2 1 0))
    (o3 : ¬ 80 < wr (m 2 1) → ¬ wr p < 0 → ¬ wr p < wr (m 17 0) → κ (some (zi (-100))) (zu (zu (zu m 2 3 0) 2 2 (wr (m 2 1))) 2 1 0))
    (o4 : ¬ 80 < wr (m 2 1) → ¬ wr p < 0 → wr p < wr (m 17 0) → T (D + 6) 181 (40, [(0, zr 1), (1, zi p), (2, zi 0)], [], (zu (zu (zu m 2 3 0) 2 2 (wr (m 2 1))) 52 1 0)) κ) :
    T (D + 6) 181 (0, [(0, zr 1), (1, zi p)], [], m) κ :=
  hT.1 [(40, [0, 1, 2])] 6 (D + 6) 181 _ κ (hT.1 [] 6 (D + 5) 66 _ _ (And.intro trivial (hT.1 [] 6 (D + 5) 66 (10, [(0, zr 2), (1, zi 80)], [zi (m 2 1), zr 2], (zu m 2 3 0)) _ (hT.1 [] 6 (D + 4) 294 _ _ (And.intro (fun a1 => (o1 a1).elim) (fun a2 => (hT.1 [] 6 (D + 5) 66 _ _ (And.intro trivial (hT.1 [(40, [0, 1, 2])] 6 (D + 6) 181 _ _ (hT.1 [] 6 (D + 5) 25 _ _ (And.intro (fun a3 => (And.intro (z_b01L rfl) (hT.1 [(40, [0, 1, 2])] 6 (D + 6) 181 _ _ (And.intro (fun a5 => (z_litF a5 rfl).elim) (fun _ => (And.intro trivial (hT.1 [(40, [0, 1, 2])] 6 (D + 6) 181 (30, [(0, zr 1), (1, zi p)], [zi (-100)], (zu (zu (zu m 2 3 0) 2 2 (wr (m 2 1))) 2 1 0)) _ (o2 a2 a3)))))))) (fun a4 => (And.intro (fun a6 => (hT.1 [] 6 (D + 5) 25 (16, [(0, zr 17), (1, zi p)], [], (zu (zu m 2 3 0) 2 2 (wr (m 2 1)))) _ (And.intro (z_b01L rfl) (hT.1 [(40, [0, 1, 2])] 6 (D + 6) 181 _ _ (And.intro (fun a8 => (z_litF a8 rfl).elim) (fun _ => (And.intro trivial (hT.1 [(40, [0, 1, 2])] 6 (D + 6) 181 (30, [(0, zr 1), (1, zi p)], [zi (-100)], (zu (zu (zu m 2 3 0) 2 2 (wr (m 2 1))) 2 1 0)) _ (o3 a2 a4 a6))))))))) (fun a7 => (hT.1 [] 6 (D + 5) 25 (12, [(0, zr 17), (1, zi p)], [], (zu (zu m 2 3 0) 2 2 (wr (m 2 1)))) _ (And.intro (z_b01L rfl) (hT.1 [(40, [0, 1, 2])] 6 (D + 6) 181 _ _ (And.intro (fun _ => (hT.1 [] 6 (D + 5) 74 _ _ (And.intro trivial (hT.1 [(40, [0, 1, 2])] 6 (D + 6) 181 _ _ (o4 a2 a4 (Classical.byContradiction a7)))))) (fun a9 => (a9 (z_litT rfl)).elim)))))))))))))))))))
theorem zb181_0 (hT : zRules T) {D : Nat} {κ : Option zA → zM → Prop} {m : zM} {p : Int}  (hB : zB m) (h_p : (-2147483648) ≤ p ∧ p ≤ 2147483647) 
    (k1 : p < 0 → zB (zu (zu (zu m 2 3 0) 2 2 (m 2 1)) 2 1 0) → κ (some (zi (-100))) (zu (zu (zu m 2 3 0) 2 2 (m 2 1)) 2 1 0))
    (k2 : ¬ p < 0 → ¬ p < (m 17 0) → zB (zu (zu (zu m 2 3 0) 2 2 (m 2 1)) 2 1 0) → κ (some (zi (-100))) (zu (zu (zu m 2 3 0) 2 2 (m 2 1)) 2 1 0))
    (k3 : ¬ p < 0 → p < (m 17 0) → zB (zu (zu (zu m 2 3 0) 2 2 (m 2 1)) 52 1 0) → T (D + 6) 181 (40, [(0, zr 1), (1, zi p), (2, zi 0)], [], (zu (zu (zu m 2 3 0) 2 2 (m 2 1)) 52 1 0)) κ) :
    T (D + 6) 181 (0, [(0, zr 1), (1, zi p)], [], m) κ := by
  have hb1 : 0 ≤ (m 2 1) ∧ (m 2 1) ≤ 80 := hB 2 1
  have hb2 : 0 ≤ (m 17 0) ∧ (m 17 0) ≤ 6 := hB 17 0
  have he0 : wr (m 2 1) = (m 2 1) := wr_id (by omega) (by omega)
  have he1 : wr p = p := wr_id (by omega) (by omega)
  have he2 : wr (m 17 0) = (m 17 0) := wr_id (by omega) (by omega)
  have key := @zb181_0r T hT D κ m p
  simp only [he0, he1, he2, Int.toNat_natCast] at key
  exact key
    (fun x0 => by omega)
    (fun x0 x1 => k1 x1 (zB_u (zB_u (zB_u hB (show (-1) ≤ 0 ∧ 0 ≤ 100 from ⟨by omega, by omega⟩)) (show 0 ≤ (m 2 1) ∧ (m 2 1) ≤ 80 from ⟨by omega, by omega⟩)) (show 0 ≤ 0 ∧ 0 ≤ 80 from ⟨by omega, by omega⟩)))
    (fun x0 x1 x2 => k2 x1 x2 (zB_u (zB_u (zB_u hB (show (-1) ≤ 0 ∧ 0 ≤ 100 from ⟨by omega, by omega⟩)) (show 0 ≤ (m 2 1) ∧ (m 2 1) ≤ 80 from ⟨by omega, by omega⟩)) (show 0 ≤ 0 ∧ 0 ≤ 80 from ⟨by omega, by omega⟩)))
    (fun x0 x1 x2 => k3 x1 x2 (zB_u (zB_u (zB_u hB (show (-1) ≤ 0 ∧ 0 ≤ 100 from ⟨by omega, by omega⟩)) (show 0 ≤ (m 2 1) ∧ (m 2 1) ≤ 80 from ⟨by omega, by omega⟩)) (show 0 ≤ 0 ∧ 0 ≤ 60 from ⟨by omega, by omega⟩)))
theorem zb181_40r (hT : zRules T) {D : Nat} {κ : Option zA → zM → Prop} {m : zM} {p : Nat} {i : Nat} {lo : zL} (hlo : z_keep [0, 1, 2] lo = [(0, zr 1), (1, zi (p : Int)), (2, zi (i : Int))]) 
    (o1 : ¬ wr (i : Int) < 26 → ¬ 0 < wr (m 52 1) → κ (some (zi (wr (wr ((-1) - (m 2 3)))))) (zu m 2 1 0))
    (o2 : ¬ wr (i : Int) < 26 → 0 < wr (m 52 1) → ¬ wr (m 2 3) = wr (m 2 1) → κ (some (zi (wr (wr ((-1) - (m 2 3)))))) (zu m 2 1 0))
    (o3 : ¬ wr (i : Int) < 26 → 0 < wr (m 52 1) → wr (m 2 3) = wr (m 2 1) → κ (some (zi 0)) (zu m 2 1 0))
    (o4 : wr (i : Int) < 26 → ∀ j, zbd 3 j (m 3 j))
    (o5 : wr (i : Int) < 26 → (0 ≤ (m 2 3) ∧ (m 2 3) ≤ 1000))
    (o6 : wr (i : Int) < 26 → (0 ≤ (m 2 2) ∧ (m 2 2) ≤ 80))
    (o7 : wr (i : Int) < 26 → wr (nxC m) < 48 → ¬ 0 < wr (m 52 1) → κ (some (zi (wr (wr ((-1) - (m 2 3)))))) (zu m 2 1 0))
    (o8 : wr (i : Int) < 26 → wr (nxC m) < 48 → 0 < wr (m 52 1) → ¬ wr (m 2 3) = wr (m 2 1) → κ (some (zi (wr (wr ((-1) - (m 2 3)))))) (zu m 2 1 0))
    (o9 : wr (i : Int) < 26 → wr (nxC m) < 48 → 0 < wr (m 52 1) → wr (m 2 3) = wr (m 2 1) → κ (some (zi 0)) (zu m 2 1 0))
    (o10 : wr (i : Int) < 26 → ¬ wr (nxC m) < 48 → ¬ 51 < wr (nxC m) → ¬ wr (wr ((nxC m) - 48)) = (-1) → T (D + 5) 169 (0, [(0, zr 1), (1, zi (p : Int)), (2, zi (wr ((nxC m) - 48))), (3, zi ((m 17 11) + (i : Int)))], [], (zu m 2 3 ((m 2 3) + 1))) (fun r m1 => T (D + 6) 181 (83, [(0, zr 1), (1, zi (p : Int)), (2, zi (i : Int)), (3, zi (wr ((nxC m) - 48)))], r.toList ++ [zr 52], m1) κ))
    (o11 : wr (i : Int) < 26 → ¬ wr (nxC m) < 48 → ¬ 51 < wr (nxC m) → wr (wr ((nxC m) - 48)) = (-1) → False)
    (o12 : wr (i : Int) < 26 → ¬ wr (nxC m) < 48 → 51 < wr (nxC m) → ¬ 0 < wr (m 52 1) → κ (some (zi (wr (wr ((-1) - (m 2 3)))))) (zu m 2 1 0))
    (o13 : wr (i : Int) < 26 → ¬ wr (nxC m) < 48 → 51 < wr (nxC m) → 0 < wr (m 52 1) → ¬ wr (m 2 3) = wr (m 2 1) → κ (some (zi (wr (wr ((-1) - (m 2 3)))))) (zu m 2 1 0))
    (o14 : wr (i : Int) < 26 → ¬ wr (nxC m) < 48 → 51 < wr (nxC m) → 0 < wr (m 52 1) → wr (m 2 3) = wr (m 2 1) → κ (some (zi 0)) (zu m 2 1 0)) :
    T (D + 6) 181 (40, lo, [], m) κ :=
  zkeep hT hlo (hT.1 [(40, [0, 1, 2])] 6 (D + 6) 181 _ κ (And.intro (fun a1 => (hT.1 [(40, [0, 1, 2])] 6 (D + 6) 181 (97, [(0, zr 1), (1, zi (p : Int)), (2, zi (i : Int))], [zr 52, zr 1], m) _ (And.intro (fun a3 => (hT.1 [] 6 (D + 5) 168 _ _ (And.intro (fun a5 => (z_litF a5 rfl).elim) (fun _ => (hT.1 [] 6 (D + 5) 168 (12, [(0, zr 1), (1, zi (-1))], [zi (m 2 3), zi (-1)], m) _ (hT.1 [] 6 (D + 5) 168 (23, [(0, zr 1), (1, zi (-1)), (2, zi ((-1) - (m 2 3)))], [zi 0, zr 2], m) _ (And.intro trivial (hT.1 [(40, [0, 1, 2])] 6 (D + 6) 181 _ _ (o1 a1 a3))))))))) (fun a4 => (hT.1 [] 6 (D + 5) 68 _ _ (And.intro (fun a6 => (hT.1 [] 6 (D + 5) 68 (16, [(0, zr 2)], [zi 0], m) _ (And.intro (z_b01L rfl) (hT.1 [(40, [0, 1, 2])] 6 (D + 6) 181 _ _ (And.intro (fun _ => (hT.1 [] 6 (D + 5) 168 _ _ (And.intro (fun a9 => (z_litF a9 rfl).elim) (fun _ => (hT.1 [] 6 (D + 5) 168 (12, [(0, zr 1), (1, zi (-1))], [zi (m 2 3), zi (-1)], m) _ (hT.1 [] 6 (D + 5) 168 (23, [(0, zr 1), (1, zi (-1)), (2, zi ((-1) - (m 2 3)))], [zi 0, zr 2], m) _ (And.intro trivial (hT.1 [(40, [0, 1, 2])] 6 (D + 6) 181 _ _ (o2 a1 (Classical.byContradiction a4) a6))))))))) (fun a8 => (a8 (z_litT rfl)).elim)))))) (fun a7 => (hT.1 [] 6 (D + 5) 68 (12, [(0, zr 2)], [zi 1], m) _ (And.intro (z_b01L rfl) (hT.1 [(40, [0, 1, 2])] 6 (D + 6) 181 _ _ (And.intro (fun a10 => (z_litF a10 rfl).elim) (fun _ => (hT.1 [] 6 (D + 5) 168 _ _ (And.intro (fun _ => (hT.1 [] 6 (D + 5) 168 (22, [(0, zr 1), (1, zi 0), (2, zi 0)], [zr 2], m) _ (And.intro trivial (hT.1 [(40, [0, 1, 2])] 6 (D + 6) 181 _ _ (o3 a1 (Classical.byContradiction a4) (Classical.byContradiction a7)))))) (fun a11 => (a11 (z_litT rfl)).elim))))))))))))))) (fun a2 => (hT.1 [(40, [0, 1, 2])] 6 (D + 6) 181 (51, [(0, zr 1), (1, zi (p : Int)), (2, zi (i : Int))], [zi 0, zr 2], m) _ (hT.1 [] 6 (D + 5) 71 _ _ (z_next hT (o4 (Classical.byContradiction a2)) (o5 (Classical.byContradiction a2)) (o6 (Classical.byContradiction a2)) (hT.1 [] 6 (D + 5) 71 _ _ (And.intro (fun a12 => (hT.1 [] 6 (D + 5) 71 (21, [(0, zr 2), (1, zi 0), (2, zi 3), (3, zi (nxC m))], [], m) _ (hT.1 [(40, [0, 1, 2])] 6 (D + 6) 181 _ _ (And.intro (fun a14 => (z_litF a14 rfl).elim) (fun _ => (hT.1 [(40, [0, 1, 2])] 6 (D + 6) 181 (93, [(0, zr 1), (1, zi (p : Int)), (2, zi (i : Int)), (3, zi (-1))], [zr 1], m) _ (And.intro (fun a15 => (hT.1 [] 6 (D + 5) 168 _ _ (And.intro (fun a17 => (z_litF a17 rfl).elim) (fun _ => (hT.1 [] 6 (D + 5) 168 (12, [(0, zr 1), (1, zi (-1))], [zi (m 2 3), zi (-1)], m) _ (hT.1 [] 6 (D + 5) 168 (23, [(0, zr 1), (1, zi (-1)), (2, zi ((-1) - (m 2 3)))], [zi 0, zr 2], m) _ (And.intro trivial (hT.1 [(40, [0, 1, 2])] 6 (D + 6) 181 _ _ (o7 (Classical.byContradiction a2) a12 a15))))))))) (fun a16 => (hT.1 [(40, [0, 1, 2])] 6 (D + 6) 181 (107, [(0, zr 1), (1, zi (p : Int)), (2, zi (i : Int)), (3, zi (-1))], [zr 2, zr 1], m) _ (hT.1 [] 6 (D + 5) 68 _ _ (And.intro (fun a18 => (hT.1 [] 6 (D + 5) 68 (16, [(0, zr 2)], [zi 0], m) _ (And.intro (z_b01L rfl) (hT.1 [(40, [0, 1, 2])] 6 (D + 6) 181 _ _ (And.intro (fun _ => (hT.1 [] 6 (D + 5) 168 _ _ (And.intro (fun a21 => (z_litF a21 rfl).elim) (fun _ => (hT.1 [] 6 (D + 5) 168 (12, [(0, zr 1), (1, zi (-1))], [zi (m 2 3), zi (-1)], m) _ (hT.1 [] 6 (D + 5) 168 (23, [(0, zr 1), (1, zi (-1)), (2, zi ((-1) - (m 2 3)))], [zi 0, zr 2], m) _ (And.intro trivial (hT.1 [(40, [0, 1, 2])] 6 (D + 6) 181 _ _ (o8 (Classical.byContradiction a2) a12 (Classical.byContradiction a16) a18))))))))) (fun a20 => (a20 (z_litT rfl)).elim)))))) (fun a19 => (hT.1 [] 6 (D + 5) 68 (12, [(0, zr 2)], [zi 1], m) _ (And.intro (z_b01L rfl) (hT.1 [(40, [0, 1, 2])] 6 (D + 6) 181 _ _ (And.intro (fun a22 => (z_litF a22 rfl).elim) (fun _ => (hT.1 [] 6 (D + 5) 168 _ _ (And.intro (fun _ => (hT.1 [] 6 (D + 5) 168 (22, [(0, zr 1), (1, zi 0), (2, zi 0)], [zr 2], m) _ (And.intro trivial (hT.1 [(40, [0, 1, 2])] 6 (D + 6) 181 _ _ (o9 (Classical.byContradiction a2) a12 (Classical.byContradiction a16) (Classical.byContradiction a19)))))) (fun a23 => (a23 (z_litT rfl)).elim)))))))))))))))))))) (fun a13 => (hT.1 [] 6 (D + 5) 71 (13, [(0, zr 2), (1, zi 0), (2, zi 3), (3, zi (nxC m))], [], m) _ (And.intro (fun a24 => (hT.1 [] 6 (D + 5) 71 (24, [(0, zr 2), (1, zi 0), (2, zi 3), (3, zi (nxC m))], [zr 2], m) _ (And.intro trivial (hT.1 [] 6 (D + 5) 71 (34, [(0, zr 2), (1, zi 0), (2, zi 3), (3, zi (nxC m))], [zi (nxC m)], (zu m 2 3 ((m 2 3) + 1))) _ (hT.1 [(40, [0, 1, 2])] 6 (D + 6) 181 _ _ (And.intro (fun a26 => (hT.1 [(40, [0, 1, 2])] 6 (D + 6) 181 (68, [(0, zr 1), (1, zi (p : Int)), (2, zi (i : Int)), (3, zi (wr ((nxC m) - 48)))], [zr 52], (zu m 2 3 ((m 2 3) + 1))) _ (hT.1 [(40, [0, 1, 2])] 6 (D + 6) 181 (78, [(0, zr 1), (1, zi (p : Int)), (2, zi (i : Int)), (3, zi (wr ((nxC m) - 48)))], [zi (m 17 11), zi (wr ((nxC m) - 48)), zi (p : Int), zr 1, zr 52], (zu m 2 3 ((m 2 3) + 1))) _ (o10 (Classical.byContradiction a2) a13 a24 a26)))) (fun a27 => (o11 (Classical.byContradiction a2) a13 a24 (Classical.byContradiction a27)).elim))))))) (fun a25 => (hT.1 [] 6 (D + 5) 71 (22, [(0, zr 2), (1, zi 0), (2, zi 3), (3, zi (nxC m))], [zi (-1)], m) _ (hT.1 [(40, [0, 1, 2])] 6 (D + 6) 181 _ _ (And.intro (fun a28 => (z_litF a28 rfl).elim) (fun _ => (hT.1 [(40, [0, 1, 2])] 6 (D + 6) 181 (93, [(0, zr 1), (1, zi (p : Int)), (2, zi (i : Int)), (3, zi (-1))], [zr 1], m) _ (And.intro (fun a29 => (hT.1 [] 6 (D + 5) 168 _ _ (And.intro (fun a31 => (z_litF a31 rfl).elim) (fun _ => (hT.1 [] 6 (D + 5) 168 (12, [(0, zr 1), (1, zi (-1))], [zi (m 2 3), zi (-1)], m) _ (hT.1 [] 6 (D + 5) 168 (23, [(0, zr 1), (1, zi (-1)), (2, zi ((-1) - (m 2 3)))], [zi 0, zr 2], m) _ (And.intro trivial (hT.1 [(40, [0, 1, 2])] 6 (D + 6) 181 _ _ (o12 (Classical.byContradiction a2) a13 (Classical.byContradiction a25) a29))))))))) (fun a30 => (hT.1 [(40, [0, 1, 2])] 6 (D + 6) 181 (107, [(0, zr 1), (1, zi (p : Int)), (2, zi (i : Int)), (3, zi (-1))], [zr 2, zr 1], m) _ (hT.1 [] 6 (D + 5) 68 _ _ (And.intro (fun a32 => (hT.1 [] 6 (D + 5) 68 (16, [(0, zr 2)], [zi 0], m) _ (And.intro (z_b01L rfl) (hT.1 [(40, [0, 1, 2])] 6 (D + 6) 181 _ _ (And.intro (fun _ => (hT.1 [] 6 (D + 5) 168 _ _ (And.intro (fun a35 => (z_litF a35 rfl).elim) (fun _ => (hT.1 [] 6 (D + 5) 168 (12, [(0, zr 1), (1, zi (-1))], [zi (m 2 3), zi (-1)], m) _ (hT.1 [] 6 (D + 5) 168 (23, [(0, zr 1), (1, zi (-1)), (2, zi ((-1) - (m 2 3)))], [zi 0, zr 2], m) _ (And.intro trivial (hT.1 [(40, [0, 1, 2])] 6 (D + 6) 181 _ _ (o13 (Classical.byContradiction a2) a13 (Classical.byContradiction a25) (Classical.byContradiction a30) a32))))))))) (fun a34 => (a34 (z_litT rfl)).elim)))))) (fun a33 => (hT.1 [] 6 (D + 5) 68 (12, [(0, zr 2)], [zi 1], m) _ (And.intro (z_b01L rfl) (hT.1 [(40, [0, 1, 2])] 6 (D + 6) 181 _ _ (And.intro (fun a36 => (z_litF a36 rfl).elim) (fun _ => (hT.1 [] 6 (D + 5) 168 _ _ (And.intro (fun _ => (hT.1 [] 6 (D + 5) 168 (22, [(0, zr 1), (1, zi 0), (2, zi 0)], [zr 2], m) _ (And.intro trivial (hT.1 [(40, [0, 1, 2])] 6 (D + 6) 181 _ _ (o14 (Classical.byContradiction a2) a13 (Classical.byContradiction a25) (Classical.byContradiction a30) (Classical.byContradiction a33)))))) (fun a37 => (a37 (z_litT rfl)).elim)))))))))))))))))))))))))))))))
theorem zb181_40 (hT : zRules T) {D : Nat} {κ : Option zA → zM → Prop} {m : zM} {p : Nat} {i : Nat} {lo : zL} (hlo : z_keep [0, 1, 2] lo = [(0, zr 1), (1, zi (p : Int)), (2, zi (i : Int))])  (hB : zB m) (h_p : p ≤ 5) (h_i : i ≤ 26) 
    (k1 : ¬ (i : Int) < 26 → ¬ 0 < (m 52 1) → zB (zu m 2 1 0) → κ (some (zi ((-1) - (m 2 3)))) (zu m 2 1 0))
    (k2 : ¬ (i : Int) < 26 → 0 < (m 52 1) → ¬ (m 2 3) = (m 2 1) → zB (zu m 2 1 0) → κ (some (zi ((-1) - (m 2 3)))) (zu m 2 1 0))
    (k3 : ¬ (i : Int) < 26 → 0 < (m 52 1) → (m 2 3) = (m 2 1) → zB (zu m 2 1 0) → κ (some (zi 0)) (zu m 2 1 0))
    (k4 : (i : Int) < 26 → (0 ≤ (m 2 3) ∧ (m 2 3) ≤ 1000))
    (k5 : (i : Int) < 26 → (nxC m) < 48 → ¬ 0 < (m 52 1) → zB (zu m 2 1 0) → κ (some (zi ((-1) - (m 2 3)))) (zu m 2 1 0))
    (k6 : (i : Int) < 26 → (nxC m) < 48 → 0 < (m 52 1) → ¬ (m 2 3) = (m 2 1) → zB (zu m 2 1 0) → κ (some (zi ((-1) - (m 2 3)))) (zu m 2 1 0))
    (k7 : (i : Int) < 26 → (nxC m) < 48 → 0 < (m 52 1) → (m 2 3) = (m 2 1) → zB (zu m 2 1 0) → κ (some (zi 0)) (zu m 2 1 0))
    (k8 : (i : Int) < 26 → ¬ (nxC m) < 48 → ¬ 51 < (nxC m) → T (D + 5) 169 (0, [(0, zr 1), (1, zi (p : Int)), (2, zi ((nxC m) - 48)), (3, zi ((m 17 11) + (i : Int)))], [], (zu m 2 3 ((m 2 3) + 1))) (fun r m1 => T (D + 6) 181 (83, [(0, zr 1), (1, zi (p : Int)), (2, zi (i : Int)), (3, zi ((nxC m) - 48))], r.toList ++ [zr 52], m1) κ))
    (k9 : (i : Int) < 26 → ¬ (nxC m) < 48 → 51 < (nxC m) → ¬ 0 < (m 52 1) → zB (zu m 2 1 0) → κ (some (zi ((-1) - (m 2 3)))) (zu m 2 1 0))
    (k10 : (i : Int) < 26 → ¬ (nxC m) < 48 → 51 < (nxC m) → 0 < (m 52 1) → ¬ (m 2 3) = (m 2 1) → zB (zu m 2 1 0) → κ (some (zi ((-1) - (m 2 3)))) (zu m 2 1 0))
    (k11 : (i : Int) < 26 → ¬ (nxC m) < 48 → 51 < (nxC m) → 0 < (m 52 1) → (m 2 3) = (m 2 1) → zB (zu m 2 1 0) → κ (some (zi 0)) (zu m 2 1 0)) :
    T (D + 6) 181 (40, lo, [], m) κ := by
  have hb2 : (-1) ≤ (m 2 3) ∧ (m 2 3) ≤ 100 := hB 2 3
  have hb3 : 0 ≤ (m 2 2) ∧ (m 2 2) ≤ 80 := hB 2 2
  have hb4 : (-1) ≤ (nxC m) ∧ (nxC m) ≤ 65535 := nxCBo m (fun j => hB 3 j)
  have hb5 : 0 ≤ (m 52 1) ∧ (m 52 1) ≤ 60 := hB 52 1
  have hb6 : 0 ≤ (m 2 1) ∧ (m 2 1) ≤ 80 := hB 2 1
  have hb7 : 0 ≤ (m 17 11) ∧ (m 17 11) ≤ 400000 := hB 17 11
  have he0 : wr (i : Int) = (i : Int) := wr_id (by omega) (by omega)
  have he1 : wr (nxC m) = (nxC m) := wr_id (by omega) (by omega)
  have he2 : wr (m 52 1) = (m 52 1) := wr_id (by omega) (by omega)
  have he3 : wr (m 2 3) = (m 2 3) := wr_id (by omega) (by omega)
  have he4 : wr (m 2 1) = (m 2 1) := wr_id (by omega) (by omega)
  have he5 : wr ((-1) - (m 2 3)) = ((-1) - (m 2 3)) := wr_id (by omega) (by omega)
  have he6 : wr ((nxC m) - 48) = ((nxC m) - 48) := wr_id (by omega) (by omega)
  have key := @zb181_40r T hT D κ m p i lo hlo
  simp only [he0, he1, he2, he3, he4, he5, he6, Int.toNat_natCast] at key
  exact key
    (fun x0 x1 => k1 x0 x1 (zB_u hB (show 0 ≤ 0 ∧ 0 ≤ 80 from ⟨by omega, by omega⟩)))
    (fun x0 x1 x2 => k2 x0 x1 x2 (zB_u hB (show 0 ≤ 0 ∧ 0 ≤ 80 from ⟨by omega, by omega⟩)))
    (fun x0 x1 x2 => k3 x0 x1 x2 (zB_u hB (show 0 ≤ 0 ∧ 0 ≤ 80 from ⟨by omega, by omega⟩)))
    (fun x0 => fun j => hB 3 j)
    k4
    (fun x0 => by refine ⟨?_, ?_⟩ <;> omega)
    (fun x0 x1 x2 => k5 x0 x1 x2 (zB_u hB (show 0 ≤ 0 ∧ 0 ≤ 80 from ⟨by omega, by omega⟩)))
    (fun x0 x1 x2 x3 => k6 x0 x1 x2 x3 (zB_u hB (show 0 ≤ 0 ∧ 0 ≤ 80 from ⟨by omega, by omega⟩)))
    (fun x0 x1 x2 x3 => k7 x0 x1 x2 x3 (zB_u hB (show 0 ≤ 0 ∧ 0 ≤ 80 from ⟨by omega, by omega⟩)))
    (fun x0 x1 x2 x3 => k8 x0 x1 x2)
    (fun x0 x1 x2 x3 => by omega)
    (fun x0 x1 x2 x3 => k9 x0 x1 x2 x3 (zB_u hB (show 0 ≤ 0 ∧ 0 ≤ 80 from ⟨by omega, by omega⟩)))
    (fun x0 x1 x2 x3 x4 => k10 x0 x1 x2 x3 x4 (zB_u hB (show 0 ≤ 0 ∧ 0 ≤ 80 from ⟨by omega, by omega⟩)))
    (fun x0 x1 x2 x3 x4 => k11 x0 x1 x2 x3 x4 (zB_u hB (show 0 ≤ 0 ∧ 0 ≤ 80 from ⟨by omega, by omega⟩)))
theorem zb181_83r (hT : zRules T) {D : Nat} {κ : Option zA → zM → Prop} {m : zM} {p : Nat} {i : Nat} {v : Int} {lo : zL} (hlo : z_keep [0, 1, 2] lo = [(0, zr 1), (1, zi (p : Int)), (2, zi (i : Int))]) 
    (o1 : ¬ wr (m 52 1) < 60 → T (D + 6) 181 (40, [(0, zr 1), (1, zi (p : Int)), (2, zi ((i : Int) + 1))], [], m) κ)
    (o2 : wr (m 52 1) < 60 → (0 ≤ wr (m 52 1) ∧ wr (m 52 1) < 60))
    (o3 : wr (m 52 1) < 60 → T (D + 6) 181 (40, [(0, zr 1), (1, zi (p : Int)), (2, zi ((i : Int) + 1))], [], (zu (zu m 53 ((wr (m 52 1)).toNat) v) 52 1 ((m 52 1) + 1))) κ) :
    T (D + 6) 181 (83, lo, [zi v, zr 52], m) κ :=
  zkeep hT hlo (hT.1 [(40, [0, 1, 2])] 6 (D + 6) 181 _ κ (hT.1 [] 6 (D + 5) 75 _ _ (And.intro (fun a1 => (hT.1 [(40, [0, 1, 2])] 6 (D + 6) 181 _ _ (o1 a1))) (fun a2 => (hT.1 [] 6 (D + 5) 75 (13, [(0, zr 52), (1, zi v)], [zr 53], m) _ (And.intro (And.intro (o2 (Classical.byContradiction a2)) trivial) (hT.1 [] 6 (D + 5) 75 (21, [(0, zr 52), (1, zi v)], [zr 52, zr 52], (zu m 53 ((wr (m 52 1)).toNat) v)) _ (And.intro trivial (hT.1 [(40, [0, 1, 2])] 6 (D + 6) 181 _ _ (o3 (Classical.byContradiction a2)))))))))))
theorem zb181_83 (hT : zRules T) {D : Nat} {κ : Option zA → zM → Prop} {m : zM} {p : Nat} {i : Nat} {v : Int} {lo : zL} (hlo : z_keep [0, 1, 2] lo = [(0, zr 1), (1, zi (p : Int)), (2, zi (i : Int))])  (hB : zB m) (h_p : p ≤ 5) (h_i : i ≤ 25) (h_v : 0 ≤ v ∧ v ≤ 99) 
    (k1 : ¬ (m 52 1) < 60 → T (D + 6) 181 (40, [(0, zr 1), (1, zi (p : Int)), (2, zi ((i : Int) + 1))], [], m) κ)
    (k2 : (m 52 1) < 60 → zB (zu (zu m 53 ((m 52 1).toNat) v) 52 1 ((m 52 1) + 1)) → T (D + 6) 181 (40, [(0, zr 1), (1, zi (p : Int)), (2, zi ((i : Int) + 1))], [], (zu (zu m 53 ((m 52 1).toNat) v) 52 1 ((m 52 1) + 1))) κ) :
    T (D + 6) 181 (83, lo, [zi v, zr 52], m) κ := by
  have hb3 : 0 ≤ (m 52 1) ∧ (m 52 1) ≤ 60 := hB 52 1
  have he0 : wr (m 52 1) = (m 52 1) := wr_id (by omega) (by omega)
  have key := @zb181_83r T hT D κ m p i v lo hlo
  simp only [he0, Int.toNat_natCast] at key
  exact key
    k1
    (fun x0 => by refine ⟨?_, ?_⟩ <;> omega)
    (fun x0 => k2 x0 (zB_u (zB_u hB (show 0 ≤ v ∧ v ≤ 99 from ⟨by omega, by omega⟩)) (show 0 ≤ ((m 52 1) + 1) ∧ ((m 52 1) + 1) ≤ 60 from ⟨by omega, by omega⟩)))
theorem zb267_0r (hT : zRules T) {D : Nat} {κ : Option zA → zM → Prop} {m : zM} {p : Int} 
    (o1 : wr p < 0 → κ (some (zi (-100))) (zu m 74 9 0))
    (o2 : ¬ wr p < 0 → wr ((m 74 4) - 1) < wr p → κ (some (zi (-100))) (zu m 74 9 0))
    (o3 : ¬ wr p < 0 → ¬ wr ((m 74 4) - 1) < wr p → T (D + 5) 267 (23, [(0, zr 74), (1, zi p), (2, zi (m 74 9)), (3, zi 0)], [], (zu m 74 9 0)) κ) :
    T (D + 5) 267 (0, [(0, zr 74), (1, zi p)], [], m) κ :=
  hT.1 [(23, [0, 1, 2, 3]), (68, [0, 1, 2, 3])] 6 (D + 5) 267 _ κ (And.intro trivial (hT.1 [(23, [0, 1, 2, 3]), (68, [0, 1, 2, 3])] 6 (D + 5) 267 (10, [(0, zr 74), (1, zi p), (2, zi (m 74 9))], [], (zu m 74 9 0)) _ (hT.1 [] 6 (D + 4) 190 _ _ (hT.1 [] 6 (D + 4) 190 (8, [(0, zr 74), (1, zi p)], [zi ((m 74 4) - 1), zi 0, zi p], (zu m 74 9 0)) _ (hT.1 [] 6 (D + 3) 186 _ _ (And.intro (fun a1 => (And.intro (z_b01L rfl) (hT.1 [] 6 (D + 4) 190 _ _ (And.intro (z_b01L rfl) (hT.1 [(23, [0, 1, 2, 3]), (68, [0, 1, 2, 3])] 6 (D + 5) 267 _ _ (And.intro (fun a3 => (z_litF a3 rfl).elim) (fun _ => (o1 a1)))))))) (fun a2 => (And.intro (fun a4 => (hT.1 [] 6 (D + 3) 186 (14, [(0, zi p), (1, zi 0), (2, zi ((m 74 4) - 1))], [], (zu m 74 9 0)) _ (And.intro (z_b01L rfl) (hT.1 [] 6 (D + 4) 190 _ _ (And.intro (z_b01L rfl) (hT.1 [(23, [0, 1, 2, 3]), (68, [0, 1, 2, 3])] 6 (D + 5) 267 _ _ (And.intro (fun a6 => (z_litF a6 rfl).elim) (fun _ => (o2 a2 a4))))))))) (fun a5 => (hT.1 [] 6 (D + 3) 186 (10, [(0, zi p), (1, zi 0), (2, zi ((m 74 4) - 1))], [], (zu m 74 9 0)) _ (And.intro (z_b01L rfl) (hT.1 [] 6 (D + 4) 190 _ _ (And.intro (z_b01L rfl) (hT.1 [(23, [0, 1, 2, 3]), (68, [0, 1, 2, 3])] 6 (D + 5) 267 _ _ (And.intro (fun _ => (o3 a2 a5)) (fun a7 => (a7 (z_litT rfl)).elim))))))))))))))))
theorem zb267_0 (hT : zRules T) {D : Nat} {κ : Option zA → zM → Prop} {m : zM} {p : Int}  (hB : zB m) (h_p : (-2147483648) ≤ p ∧ p ≤ 2147483647) 
    (k1 : p < 0 → zB (zu m 74 9 0) → κ (some (zi (-100))) (zu m 74 9 0))
    (k2 : ¬ p < 0 → ((m 74 4) - 1) < p → zB (zu m 74 9 0) → κ (some (zi (-100))) (zu m 74 9 0))
    (k3 : ¬ p < 0 → ¬ ((m 74 4) - 1) < p → zB (zu m 74 9 0) → T (D + 5) 267 (23, [(0, zr 74), (1, zi p), (2, zi (m 74 9)), (3, zi 0)], [], (zu m 74 9 0)) κ) :
    T (D + 5) 267 (0, [(0, zr 74), (1, zi p)], [], m) κ := by
  have hb1 : 0 ≤ (m 74 9) ∧ (m 74 9) ≤ 80 := hB 74 9
  have hb2 : 0 ≤ (m 74 4) ∧ (m 74 4) ≤ 6 := hB 74 4
  have he0 : wr p = p := wr_id (by omega) (by omega)
  have he1 : wr ((m 74 4) - 1) = ((m 74 4) - 1) := wr_id (by omega) (by omega)
  have key := @zb267_0r T hT D κ m p
  simp only [he0, he1, Int.toNat_natCast] at key
  exact key
    (fun x0 => k1 x0 (zB_u hB (show 0 ≤ 0 ∧ 0 ≤ 80 from ⟨by omega, by omega⟩)))
    (fun x0 x1 => k2 x0 x1 (zB_u hB (show 0 ≤ 0 ∧ 0 ≤ 80 from ⟨by omega, by omega⟩)))
    (fun x0 x1 => k3 x0 x1 (zB_u hB (show 0 ≤ 0 ∧ 0 ≤ 80 from ⟨by omega, by omega⟩)))
theorem zb267_23r (hT : zRules T) {D : Nat} {κ : Option zA → zM → Prop} {m : zM} {p : Nat} {n : Nat} {i : Nat} {lo : zL} (hlo : z_keep [0, 1, 2, 3] lo = [(0, zr 74), (1, zi (p : Int)), (2, zi (n : Int)), (3, zi (i : Int))]) 
    (o1 : ¬ wr (i : Int) < wr (n : Int) → ¬ wr (n : Int) = 0 → T (D + 5) 267 (68, [(0, zr 74), (1, zi (p : Int)), (2, zi (n : Int)), (3, zi 0)], [], m) κ)
    (o2 : ¬ wr (i : Int) < wr (n : Int) → wr (n : Int) = 0 → κ (some (zi (-1))) m)
    (o3 : wr (i : Int) < wr (n : Int) → wr (i : Int) = 26 → κ (some (zi (wr ((-1) - (i : Int))))) m)
    (o4 : wr (i : Int) < wr (n : Int) → ¬ wr (i : Int) = 26 → (0 ≤ wr (i : Int) ∧ wr (i : Int) < 80))
    (o5 : wr (i : Int) < wr (n : Int) → ¬ wr (i : Int) = 26 → wr (m 80 ((wr (i : Int)).toNat)) < 48 → κ (some (zi (wr ((-1) - (i : Int))))) m)
    (o6 : wr (i : Int) < wr (n : Int) → ¬ wr (i : Int) = 26 → ¬ wr (m 80 ((wr (i : Int)).toNat)) < 48 → 51 < wr (m 80 ((wr (i : Int)).toNat)) → κ (some (zi (wr ((-1) - (i : Int))))) m)
    (o7 : wr (i : Int) < wr (n : Int) → ¬ wr (i : Int) = 26 → ¬ wr (m 80 ((wr (i : Int)).toNat)) < 48 → ¬ 51 < wr (m 80 ((wr (i : Int)).toNat)) → T (D + 5) 267 (23, [(0, zr 74), (1, zi (p : Int)), (2, zi (n : Int)), (3, zi ((i : Int) + 1))], [], m) κ) :
    T (D + 5) 267 (23, lo, [], m) κ :=
  zkeep hT hlo (hT.1 [(23, [0, 1, 2, 3]), (68, [0, 1, 2, 3])] 6 (D + 5) 267 _ κ (And.intro (fun a1 => (And.intro (fun a3 => (hT.1 [(23, [0, 1, 2, 3]), (68, [0, 1, 2, 3])] 6 (D + 5) 267 (67, [(0, zr 74), (1, zi (p : Int)), (2, zi (n : Int)), (3, zi (i : Int))], [zi 0], m) _ (o1 a1 a3))) (fun a4 => (hT.1 [(23, [0, 1, 2, 3]), (68, [0, 1, 2, 3])] 6 (D + 5) 267 (65, [(0, zr 74), (1, zi (p : Int)), (2, zi (n : Int)), (3, zi (i : Int))], [zi (-1)], m) _ (o2 a1 (Classical.byContradiction a4)))))) (fun a2 => (And.intro (fun a5 => (hT.1 [(23, [0, 1, 2, 3]), (68, [0, 1, 2, 3])] 6 (D + 5) 267 (50, [(0, zr 74), (1, zi (p : Int)), (2, zi (n : Int)), (3, zi (i : Int))], [], m) _ (o3 (Classical.byContradiction a2) a5))) (fun a6 => (hT.1 [(23, [0, 1, 2, 3]), (68, [0, 1, 2, 3])] 6 (D + 5) 267 (34, [(0, zr 74), (1, zi (p : Int)), (2, zi (n : Int)), (3, zi (i : Int))], [], m) _ (And.intro (o4 (Classical.byContradiction a2) a6) (hT.1 [(23, [0, 1, 2, 3]), (68, [0, 1, 2, 3])] 6 (D + 5) 267 (44, [(0, zr 74), (1, zi (p : Int)), (2, zi (n : Int)), (3, zi (i : Int))], [zi 51, zi 48, zi (m 80 ((wr (i : Int)).toNat))], m) _ (hT.1 [] 6 (D + 4) 186 _ _ (And.intro (fun a7 => (And.intro (z_b01L rfl) (hT.1 [(23, [0, 1, 2, 3]), (68, [0, 1, 2, 3])] 6 (D + 5) 267 _ _ (And.intro (fun a9 => (z_litF a9 rfl).elim) (fun _ => (o5 (Classical.byContradiction a2) a6 a7)))))) (fun a8 => (And.intro (fun a10 => (hT.1 [] 6 (D + 4) 186 (14, [(0, zi (m 80 ((wr (i : Int)).toNat))), (1, zi 48), (2, zi 51)], [], m) _ (And.intro (z_b01L rfl) (hT.1 [(23, [0, 1, 2, 3]), (68, [0, 1, 2, 3])] 6 (D + 5) 267 _ _ (And.intro (fun a12 => (z_litF a12 rfl).elim) (fun _ => (o6 (Classical.byContradiction a2) a6 a8 a10))))))) (fun a11 => (hT.1 [] 6 (D + 4) 186 (10, [(0, zi (m 80 ((wr (i : Int)).toNat))), (1, zi 48), (2, zi 51)], [], m) _ (And.intro (z_b01L rfl) (hT.1 [(23, [0, 1, 2, 3]), (68, [0, 1, 2, 3])] 6 (D + 5) 267 _ _ (And.intro (fun _ => (o7 (Classical.byContradiction a2) a6 a8 a11)) (fun a13 => (a13 (z_litT rfl)).elim))))))))))))))))))
theorem zb267_23 (hT : zRules T) {D : Nat} {κ : Option zA → zM → Prop} {m : zM} {p : Nat} {n : Nat} {i : Nat} {lo : zL} (hlo : z_keep [0, 1, 2, 3] lo = [(0, zr 74), (1, zi (p : Int)), (2, zi (n : Int)), (3, zi (i : Int))])  (hB : zB m) (h_p : p ≤ 5) (h_n : n ≤ 80) (h_i : i ≤ 80) 
    (k1 : ¬ (i : Int) < (n : Int) → ¬ (n : Int) = 0 → T (D + 5) 267 (68, [(0, zr 74), (1, zi (p : Int)), (2, zi (n : Int)), (3, zi 0)], [], m) κ)
    (k2 : ¬ (i : Int) < (n : Int) → (n : Int) = 0 → κ (some (zi (-1))) m)
    (k3 : (i : Int) < (n : Int) → (i : Int) = 26 → κ (some (zi ((-1) - (i : Int)))) m)
    (k4 : (i : Int) < (n : Int) → ¬ (i : Int) = 26 → (m 80 i) < 48 → κ (some (zi ((-1) - (i : Int)))) m)
    (k5 : (i : Int) < (n : Int) → ¬ (i : Int) = 26 → ¬ (m 80 i) < 48 → 51 < (m 80 i) → κ (some (zi ((-1) - (i : Int)))) m)
    (k6 : (i : Int) < (n : Int) → ¬ (i : Int) = 26 → ¬ (m 80 i) < 48 → ¬ 51 < (m 80 i) → T (D + 5) 267 (23, [(0, zr 74), (1, zi (p : Int)), (2, zi (n : Int)), (3, zi ((i : Int) + 1))], [], m) κ) :
    T (D + 5) 267 (23, lo, [], m) κ := by
  have hb3 : (-128) ≤ (m 80 i) ∧ (m 80 i) ≤ 127 := hB 80 i
  have he0 : wr (i : Int) = (i : Int) := wr_id (by omega) (by omega)
  have he1 : wr (n : Int) = (n : Int) := wr_id (by omega) (by omega)
  have he2 : wr ((-1) - (i : Int)) = ((-1) - (i : Int)) := wr_id (by omega) (by omega)
  have he3 : (i : Int).toNat = i := by omega
  have he4 : wr (m 80 i) = (m 80 i) := wr_id (by omega) (by omega)
  have key := @zb267_23r T hT D κ m p n i lo hlo
  simp only [he0, he1, he2, he3, he4, Int.toNat_natCast] at key
  exact key
    k1
    k2
    k3
    (fun x0 x1 => by refine ⟨?_, ?_⟩ <;> omega)
    k4
    k5
    k6
theorem zb267_68r (hT : zRules T) {D : Nat} {κ : Option zA → zM → Prop} {m : zM} {p : Nat} {n : Nat} {i : Nat} {lo : zL} (hlo : z_keep [0, 1, 2, 3] lo = [(0, zr 74), (1, zi (p : Int)), (2, zi (n : Int)), (3, zi (i : Int))]) 
    (o1 : ¬ wr (i : Int) < wr (n : Int) → κ (some (zi 0)) (zu m 74 49 (n : Int)))
    (o2 : wr (i : Int) < wr (n : Int) → (0 ≤ wr (i : Int) ∧ wr (i : Int) < 80))
    (o3 : wr (i : Int) < wr (n : Int) → T (D + 4) 215 (0, [(0, zr 74), (1, zi (p : Int)), (2, zi ((m 80 ((wr (i : Int)).toNat)) - 48)), (3, zi ((m 75 57) + (i : Int)))], [], m) (fun r m1 => T (D + 5) 267 (101, [(0, zr 74), (1, zi (p : Int)), (2, zi (n : Int)), (3, zi (i : Int))], r.toList ++ [zi (i : Int), zr 97], m1) κ)) :
    T (D + 5) 267 (68, lo, [], m) κ :=
  zkeep hT hlo (hT.1 [(23, [0, 1, 2, 3]), (68, [0, 1, 2, 3])] 6 (D + 5) 267 _ κ (And.intro (fun a1 => (And.intro trivial (hT.1 [(23, [0, 1, 2, 3]), (68, [0, 1, 2, 3])] 6 (D + 5) 267 (113, [(0, zr 74), (1, zi (p : Int)), (2, zi (n : Int)), (3, zi (i : Int))], [], (zu m 74 49 (n : Int))) _ (o1 a1)))) (fun a2 => (hT.1 [(23, [0, 1, 2, 3]), (68, [0, 1, 2, 3])] 6 (D + 5) 267 (78, [(0, zr 74), (1, zi (p : Int)), (2, zi (n : Int)), (3, zi (i : Int))], [zi (i : Int), zr 97], m) _ (And.intro (o2 (Classical.byContradiction a2)) (hT.1 [(23, [0, 1, 2, 3]), (68, [0, 1, 2, 3])] 6 (D + 5) 267 (86, [(0, zr 74), (1, zi (p : Int)), (2, zi (n : Int)), (3, zi (i : Int))], [zi (m 80 ((wr (i : Int)).toNat)), zi (p : Int), zr 74, zi (i : Int), zr 97], m) _ (And.intro (z_ixL rfl) (hT.1 [(23, [0, 1, 2, 3]), (68, [0, 1, 2, 3])] 6 (D + 5) 267 (96, [(0, zr 74), (1, zi (p : Int)), (2, zi (n : Int)), (3, zi (i : Int))], [zi (m 75 57), zi ((m 80 ((wr (i : Int)).toNat)) - 48), zi (p : Int), zr 74, zi (i : Int), zr 97], m) _ (o3 (Classical.byContradiction a2))))))))))
theorem zb267_68 (hT : zRules T) {D : Nat} {κ : Option zA → zM → Prop} {m : zM} {p : Nat} {n : Nat} {i : Nat} {lo : zL} (hlo : z_keep [0, 1, 2, 3] lo = [(0, zr 74), (1, zi (p : Int)), (2, zi (n : Int)), (3, zi (i : Int))])  (hB : zB m) (h_p : p ≤ 5) (h_n : n ≤ 26) (h_i : i ≤ 26) 
    (k1 : ¬ (i : Int) < (n : Int) → zB (zu m 74 49 (n : Int)) → κ (some (zi 0)) (zu m 74 49 (n : Int)))
    (k2 : (i : Int) < (n : Int) → T (D + 4) 215 (0, [(0, zr 74), (1, zi (p : Int)), (2, zi ((m 80 i) - 48)), (3, zi ((m 75 57) + (i : Int)))], [], m) (fun r m1 => T (D + 5) 267 (101, [(0, zr 74), (1, zi (p : Int)), (2, zi (n : Int)), (3, zi (i : Int))], r.toList ++ [zi (i : Int), zr 97], m1) κ)) :
    T (D + 5) 267 (68, lo, [], m) κ := by
  have hb3 : (-128) ≤ (m 80 i) ∧ (m 80 i) ≤ 127 := hB 80 i
  have hb4 : 0 ≤ (m 75 57) ∧ (m 75 57) ≤ 400000 := hB 75 57
  have he0 : wr (i : Int) = (i : Int) := wr_id (by omega) (by omega)
  have he1 : wr (n : Int) = (n : Int) := wr_id (by omega) (by omega)
  have he2 : (i : Int).toNat = i := by omega
  have key := @zb267_68r T hT D κ m p n i lo hlo
  simp only [he0, he1, he2, Int.toNat_natCast] at key
  exact key
    (fun x0 => k1 x0 (zB_u hB (show 0 ≤ (n : Int) ∧ (n : Int) ≤ 26 from ⟨by omega, by omega⟩)))
    (fun x0 => by refine ⟨?_, ?_⟩ <;> omega)
    k2
theorem zb267_101r (hT : zRules T) {D : Nat} {κ : Option zA → zM → Prop} {m : zM} {p : Nat} {n : Nat} {i : Nat} {v : Int} {d : Nat} {lo : zL} (hlo : z_keep [0, 1, 2, 3] lo = [(0, zr 74), (1, zi (p : Int)), (2, zi (n : Int)), (3, zi (i : Int))]) 
    (o1 : (0 ≤ wr (d : Int) ∧ wr (d : Int) < 26))
    (o2 : T (D + 5) 267 (68, [(0, zr 74), (1, zi (p : Int)), (2, zi (n : Int)), (3, zi ((i : Int) + 1))], [], (zu m 97 ((wr (d : Int)).toNat) v)) κ) :
    T (D + 5) 267 (101, lo, [zi v, zi (d : Int), zr 97], m) κ :=
  zkeep hT hlo (hT.1 [(23, [0, 1, 2, 3]), (68, [0, 1, 2, 3])] 6 (D + 5) 267 _ κ (And.intro (And.intro (o1) trivial) (o2)))
theorem zb267_101 (hT : zRules T) {D : Nat} {κ : Option zA → zM → Prop} {m : zM} {p : Nat} {n : Nat} {i : Nat} {v : Int} {d : Nat} {lo : zL} (hlo : z_keep [0, 1, 2, 3] lo = [(0, zr 74), (1, zi (p : Int)), (2, zi (n : Int)), (3, zi (i : Int))])  (hB : zB m) (h_p : p ≤ 5) (h_n : n ≤ 26) (h_i : i ≤ 25) (h_v : 0 ≤ v ∧ v ≤ 99) (h_d : d ≤ 25) 
    (k1 : zB (zu m 97 d v) → T (D + 5) 267 (68, [(0, zr 74), (1, zi (p : Int)), (2, zi (n : Int)), (3, zi ((i : Int) + 1))], [], (zu m 97 d v)) κ) :
    T (D + 5) 267 (101, lo, [zi v, zi (d : Int), zr 97], m) κ := by
  have he0 : wr (d : Int) = (d : Int) := wr_id (by omega) (by omega)
  have he1 : (d : Int).toNat = d := by omega
  have key := @zb267_101r T hT D κ m p n i v d lo hlo
  simp only [he0, he1, Int.toNat_natCast] at key
  exact key
    (by refine ⟨?_, ?_⟩ <;> omega)
    (k1  (zB_u hB (show 0 ≤ v ∧ v ≤ 99 from ⟨by omega, by omega⟩)))
end ZBlocks
end
-- 9n.readway.lean.txt
section
/-! way()'s and trunk()'s reading of THE TEXT: it ends, and THE TEXT is empty then. -/
section ZReadWay
variable {T : Nat → Nat → zG → (Option zA → zM → Prop) → Prop} {B : Int}
theorem z_readWayC0 (hT : zRules T) {D : Nat} {κ : Option zA → zM → Prop} {m : zM} {sc : zSc} {n k : Nat} {v : Int} (hI : Inv B sc n k m) (hv : isI v) (hk : ∀ r M, isI r → zB M → zFr (inL [(2, some 1), (2, some 2), (2, some 3), (13, none), (52, some 1), (53, none)]) m M → M 2 1 = 0 → (r = 0 → M 52 1 ≤ 26) → κ (some (zi r)) M) : T (D + 6) 181 (0, [(0, zr 1), (1, zi v)], [], m) κ := by
  have i1 := hI.1
  have h4 := hI.2.2.2.1
  have b17 : 0 ≤ m 17 0 ∧ m 17 0 ≤ 6 := i1 17 0
  have n1 := h4.1.1
  refine zb181_0 (D := D) hT i1 hv (fun _ hz => hk _ _ (by unfold isI; omega) hz (((zFr.refl.set rfl).set rfl).set rfl) (by rw [zu_sm rfl]) (fun q => absurd q (by decide))) (fun _ _ hz => hk _ _ (by unfold isI; omega) hz (((zFr.refl.set rfl).set rfl).set rfl) (by rw [zu_sm rfl]) (fun q => absurd q (by decide))) (fun q1 q2 hz => ?_)
  obtain ⟨p, rfl⟩ : ∃ p : Nat, v = (p : Int) := ⟨v.toNat, by omega⟩
  have loop : ∀ (j i : Nat) (M : zM), i + j = 26 → zB M → zFr (inL [(2, some 1), (2, some 2), (2, some 3), (13, none), (52, some 1), (53, none)]) m M → M 2 3 = (i : Int) → M 52 1 ≤ i → T (D + 6) 181 (40, [(0, zr 1), (1, zi (p : Int)), (2, zi (i : Int))], [], M) κ := by
    intro j
    induction j with
    | zero =>
      intro i M hi hBM hF h23 h521
      exact zb181_40 (D := D) hT rfl hBM (by omega) (by omega) (fun _ _ hz => hk _ _ (by unfold isI; omega) hz (hF.set rfl) (by rw [zu_sm rfl]) (fun _ => by rw [zu_dn (by omega)]; omega)) (fun _ _ _ hz => hk _ _ (by unfold isI; omega) hz (hF.set rfl) (by rw [zu_sm rfl]) (fun _ => by rw [zu_dn (by omega)]; omega)) (fun _ _ _ hz => hk _ _ (by unfold isI; omega) hz (hF.set rfl) (by rw [zu_sm rfl]) (fun _ => by rw [zu_dn (by omega)]; omega)) (fun q => by omega) (fun q => by omega) (fun q => by omega) (fun q => by omega) (fun q => by omega) (fun q => by omega) (fun q => by omega) (fun q => by omega)
    | succ j ih =>
      intro i M hi hBM hF h23 h521
      have fin : ∀ x : Int, isI x → zB (zu M 2 1 0) → κ (some (zi x)) (zu M 2 1 0) := fun x hx hz => hk _ _ hx hz (hF.set rfl) (by rw [zu_sm rfl]) (fun _ => by rw [zu_dn (by omega)]; omega)
      have r1 : isI ((-1) - M 2 3) := by unfold isI; omega
      have r0 : isI 0 := by unfold isI; omega
      refine zb181_40 (D := D) hT rfl hBM (by omega) (by omega) (fun q => by omega) (fun q => by omega) (fun q => by omega) (fun _ => by omega) (fun _ _ _ hz => fin _ r1 hz) (fun _ _ _ _ hz => fin _ r1 hz) (fun _ _ _ _ hz => fin _ r0 hz) (fun _ c1 c2 => ?_) (fun _ _ _ _ hz => fin _ r1 hz) (fun _ _ _ _ _ hz => fin _ r1 hz) (fun _ _ _ _ _ hz => fin _ r0 hz)
      generalize nxC M = c at c1 c2 ⊢
      obtain ⟨pl, hpl⟩ : ∃ pl : Nat, c - 48 = (pl : Int) := ⟨(c - 48).toNat, by omega⟩
      rw [hpl]
      have hz2 : zB (zu M 2 3 (M 2 3 + 1)) := zB_u hBM (by show -1 ≤ M 2 3 + 1 ∧ M 2 3 + 1 ≤ 100; omega)
      have hF2 : zFr (inL [(2, some 1), (2, some 2), (2, some 3), (13, none), (52, some 1), (53, none)]) m (zu M 2 3 (M 2 3 + 1)) := hF.set rfl
      have x23 : (zu M 2 3 (M 2 3 + 1)) 2 3 = ((i + 1 : Nat) : Int) := by rw [zu_sm rfl, h23]; omega
      have x52 : (zu M 2 3 (M 2 3 + 1)) 52 1 ≤ (i : Int) := by rw [zu_dn (by omega)]; exact h521
      have e17 : M 17 11 = (zu M 2 3 (M 2 3 + 1)) 17 11 := by rw [zu_dn (by omega)]
      rw [e17]
      generalize zu M 2 3 (M 2 3 + 1) = M2 at hz2 hF2 x23 x52 ⊢
      have b11 : 0 ≤ M2 17 11 ∧ M2 17 11 ≤ 400000 := hz2 17 11
      have h18 := (h4.2.2.1 p (by omega)).2
      have hA : Agree KL m M2 := .of hF2 rfl
      refine z_lawAt (D := D + 1) hT hz2 (by omega) (by rw [hF2 18 p rfl]; omega) (by omega) (by omega) (hA.law.1 hI.2.2.1).1 (fun M3 hB3 hF3 => ?_)
      have hF3b : zFr (inL [(13, none)]) M2 M3 := hF3.sub rowL13
      have hFa : zFr (inL [(2, some 1), (2, some 2), (2, some 3), (13, none), (52, some 1), (53, none)]) m M3 := hF2.trans (hF3b.sub (inL_sub (by decide)))
      have y52 : M3 52 1 ≤ (i : Int) := by rw [hF3b 52 1 rfl]; exact x52
      have y23 : M3 2 3 = ((i + 1 : Nat) : Int) := (hF3b 2 3 rfl).trans x23
      refine zb181_83 (D := D) hT rfl hB3 (by omega) (by omega) LWB (fun _ => ih (i + 1) M3 (by omega) hB3 hFa y23 (by omega)) (fun _ hz4 => ?_)
      exact ih (i + 1) _ (by omega) hz4 ((hFa.set rfl).set rfl) (by rw [zu_dn (by omega), zu_dn (by omega)]; exact y23) (by rw [zu_sm rfl]; omega)
  exact loop 26 0 _ (by omega) hz (((zFr.refl.set rfl).set rfl).set rfl) (by rw [zu_dn (by omega), zu_off (by omega), zu_sm rfl]; rfl) (by rw [zu_sm rfl]; exact Int.le_refl _)
end ZReadWay
end
-- 9o.b24.lean.txt
section
section ZBlocks
variable {T : Nat → Nat → zG → (Option zA → zM → Prop) → Prop}
theorem zb146_0r (hT : zRules T) {D : Nat} {κ : Option zA → zM → Prop} {m : zM} {p : Int} 
    (o1 : T (D + 6) 181 (0, [(0, zr 1), (1, zi p)], [], m) (fun r m1 => T (D + 7) 146 (5, [(0, zr 1), (1, zi p)], r.toList ++ [], m1) κ)) :
    T (D + 7) 146 (0, [(0, zr 1), (1, zi p)], [], m) κ :=
  hT.1 [] 6 (D + 7) 146 _ κ (o1)
theorem zb146_0 (hT : zRules T) {D : Nat} {κ : Option zA → zM → Prop} {m : zM} {p : Int}  (hB : zB m) (h_p : (-2147483648) ≤ p ∧ p ≤ 2147483647) 
    (k1 : T (D + 6) 181 (0, [(0, zr 1), (1, zi p)], [], m) (fun r m1 => T (D + 7) 146 (5, [(0, zr 1), (1, zi p)], r.toList ++ [], m1) κ)) :
    T (D + 7) 146 (0, [(0, zr 1), (1, zi p)], [], m) κ := by
  exact zb146_0r hT
    k1
theorem zb146_5r (hT : zRules T) {D : Nat} {κ : Option zA → zM → Prop} {m : zM} {v : Int} {lo : zL} (hlo : z_keep [0] lo = [(0, zr 1)]) 
    (o1 : wr v = 0 → T (D + 6) 91 (0, [(0, zr 52), (1, zi (wr (m 24 0)))], [], m) (fun r m1 => T (D + 7) 146 (26, [(0, zr 1), (2, zi v)], r.toList ++ [], m1) κ))
    (o2 : ¬ wr v = 0 → κ (some (zi (wr v))) m) :
    T (D + 7) 146 (5, lo, [zi v], m) κ :=
  zkeep hT hlo (hT.1 [] 6 (D + 7) 146 _ κ (And.intro (fun a1 => (hT.1 [] 6 (D + 7) 146 (17, [(0, zr 1), (2, zi v)], [zr 1, zr 52], m) _ (hT.1 [] 6 (D + 6) 27 _ _ (And.intro (z_ixL rfl) (hT.1 [] 6 (D + 7) 146 _ _ (o1 a1)))))) (fun a2 => (o2 a2))))
theorem zb146_5 (hT : zRules T) {D : Nat} {κ : Option zA → zM → Prop} {m : zM} {v : Int} {lo : zL} (hlo : z_keep [0] lo = [(0, zr 1)])  (hB : zB m) (h_v : (-2147483648) ≤ v ∧ v ≤ 2147483647) 
    (k1 : v = 0 → T (D + 6) 91 (0, [(0, zr 52), (1, zi (m 24 0))], [], m) (fun r m1 => T (D + 7) 146 (26, [(0, zr 1), (2, zi v)], r.toList ++ [], m1) κ))
    (k2 : ¬ v = 0 → κ (some (zi v)) m) :
    T (D + 7) 146 (5, lo, [zi v], m) κ := by
  have hb1 : 0 ≤ (m 24 0) ∧ (m 24 0) ≤ 9 := hB 24 0
  have he0 : wr v = v := wr_id (by omega) (by omega)
  have he1 : wr (m 24 0) = (m 24 0) := wr_id (by omega) (by omega)
  have key := @zb146_5r T hT D κ m v lo hlo
  simp only [he0, he1, Int.toNat_natCast] at key
  exact key
    k1
    k2
theorem zb146_26r (hT : zRules T) {D : Nat} {κ : Option zA → zM → Prop} {m : zM} {c : Nat} {lo : zL} (hlo : z_keep [0] lo = [(0, zr 1)]) 
    (o1 : T (D + 6) 48 (0, [(0, zr 72), (1, zr 58), (2, zi (c : Int))], [], m) (fun r m1 => T (D + 7) 146 (42, [(0, zr 1), (3, zi (c : Int))], r.toList ++ [], m1) κ)) :
    T (D + 7) 146 (26, lo, [zi (c : Int)], m) κ :=
  zkeep hT hlo (hT.1 [] 6 (D + 7) 146 _ κ (hT.1 [] 6 (D + 7) 146 (38, [(0, zr 1), (3, zi (c : Int))], [zr 58, zr 72], m) _ (o1)))
theorem zb146_26 (hT : zRules T) {D : Nat} {κ : Option zA → zM → Prop} {m : zM} {c : Nat} {lo : zL} (hlo : z_keep [0] lo = [(0, zr 1)])  (hB : zB m) (h_c : c ≤ 60) 
    (k1 : T (D + 6) 48 (0, [(0, zr 72), (1, zr 58), (2, zi (c : Int))], [], m) (fun r m1 => T (D + 7) 146 (42, [(0, zr 1), (3, zi (c : Int))], r.toList ++ [], m1) κ)) :
    T (D + 7) 146 (26, lo, [zi (c : Int)], m) κ := by
  exact zb146_26r hT hlo
    k1
theorem zb146_42r (hT : zRules T) {D : Nat} {κ : Option zA → zM → Prop} {m : zM} {c : Nat} {lo : zL} (hlo : z_keep [3] lo = [(3, zi (c : Int))]) 
    (o1 : κ (some (zi (wr (c : Int)))) m) :
    T (D + 7) 146 (42, lo, [], m) κ :=
  zkeep hT hlo (hT.1 [] 6 (D + 7) 146 _ κ (o1))
theorem zb146_42 (hT : zRules T) {D : Nat} {κ : Option zA → zM → Prop} {m : zM} {c : Nat} {lo : zL} (hlo : z_keep [3] lo = [(3, zi (c : Int))])  (h_c : c ≤ 60) 
    (k1 : κ (some (zi (c : Int))) m) :
    T (D + 7) 146 (42, lo, [], m) κ := by
  have he0 : wr (c : Int) = (c : Int) := wr_id (by omega) (by omega)
  have key := @zb146_42r T hT D κ m c lo hlo
  simp only [he0, Int.toNat_natCast] at key
  exact key
    k1
theorem zb271_0r (hT : zRules T) {D : Nat} {κ : Option zA → zM → Prop} {m : zM} {p : Int} 
    (o1 : T (D + 5) 267 (0, [(0, zr 74), (1, zi p)], [], (zu m 74 12 0)) (fun r m1 => T (D + 6) 271 (10, [(0, zr 74), (1, zi p)], r.toList ++ [], m1) κ)) :
    T (D + 6) 271 (0, [(0, zr 74), (1, zi p)], [], m) κ :=
  hT.1 [(30, [0, 3, 4])] 6 (D + 6) 271 _ κ (And.intro trivial (o1))
theorem zb271_0 (hT : zRules T) {D : Nat} {κ : Option zA → zM → Prop} {m : zM} {p : Int}  (hB : zB m) (h_p : (-2147483648) ≤ p ∧ p ≤ 2147483647) 
    (k1 : zB (zu m 74 12 0) → T (D + 5) 267 (0, [(0, zr 74), (1, zi p)], [], (zu m 74 12 0)) (fun r m1 => T (D + 6) 271 (10, [(0, zr 74), (1, zi p)], r.toList ++ [], m1) κ)) :
    T (D + 6) 271 (0, [(0, zr 74), (1, zi p)], [], m) κ := by
  exact zb271_0r hT
    (k1  (zB_u hB trivial))
theorem zb271_10r (hT : zRules T) {D : Nat} {κ : Option zA → zM → Prop} {m : zM} {v : Int} {lo : zL} (hlo : z_keep [0] lo = [(0, zr 74)]) 
    (o1 : ¬ wr v < 0 → T (D + 5) 270 (0, [(0, zr 74)], [], m) (fun r m1 => T (D + 6) 271 (21, [(0, zr 74), (2, zi v)], r.toList ++ [], m1) κ))
    (o2 : wr v < 0 → κ (some (zi (wr v))) m) :
    T (D + 6) 271 (10, lo, [zi v], m) κ :=
  zkeep hT hlo (hT.1 [(30, [0, 3, 4])] 6 (D + 6) 271 _ κ (And.intro (fun a1 => (o1 a1)) (fun a2 => (o2 (Classical.byContradiction a2)))))
theorem zb271_10 (hT : zRules T) {D : Nat} {κ : Option zA → zM → Prop} {m : zM} {v : Int} {lo : zL} (hlo : z_keep [0] lo = [(0, zr 74)])  (hB : zB m) (h_v : (-2147483648) ≤ v ∧ v ≤ 2147483647) 
    (k1 : ¬ v < 0 → T (D + 5) 270 (0, [(0, zr 74)], [], m) (fun r m1 => T (D + 6) 271 (21, [(0, zr 74), (2, zi v)], r.toList ++ [], m1) κ))
    (k2 : v < 0 → κ (some (zi v)) m) :
    T (D + 6) 271 (10, lo, [zi v], m) κ := by
  have he0 : wr v = v := wr_id (by omega) (by omega)
  have key := @zb271_10r T hT D κ m v lo hlo
  simp only [he0, Int.toNat_natCast] at key
  exact key
    k1
    k2
theorem zb271_21r (hT : zRules T) {D : Nat} {κ : Option zA → zM → Prop} {m : zM} {c : Nat} {lo : zL} (hlo : z_keep [0] lo = [(0, zr 74)]) 
    (o1 : T (D + 6) 271 (30, [(0, zr 74), (3, zi (c : Int)), (4, zi 0)], [], (zu m 74 11 0)) κ) :
    T (D + 6) 271 (21, lo, [zi (c : Int)], m) κ :=
  zkeep hT hlo (hT.1 [(30, [0, 3, 4])] 6 (D + 6) 271 _ κ (And.intro trivial (o1)))
theorem zb271_21 (hT : zRules T) {D : Nat} {κ : Option zA → zM → Prop} {m : zM} {c : Nat} {lo : zL} (hlo : z_keep [0] lo = [(0, zr 74)])  (hB : zB m) (h_c : c ≤ 26) 
    (k1 : zB (zu m 74 11 0) → T (D + 6) 271 (30, [(0, zr 74), (3, zi (c : Int)), (4, zi 0)], [], (zu m 74 11 0)) κ) :
    T (D + 6) 271 (21, lo, [zi (c : Int)], m) κ := by
  exact zb271_21r hT hlo
    (k1  (zB_u hB (show 0 ≤ 0 ∧ 0 ≤ 32 from ⟨by omega, by omega⟩)))
theorem zb271_30r (hT : zRules T) {D : Nat} {κ : Option zA → zM → Prop} {m : zM} {c : Nat} {i : Nat} {lo : zL} (hlo : z_keep [0, 3, 4] lo = [(0, zr 74), (3, zi (c : Int)), (4, zi (i : Int))]) 
    (o1 : ¬ wr (i : Int) < wr (c : Int) → κ (some (zi (wr (c : Int)))) m)
    (o2 : wr (i : Int) < wr (c : Int) → (0 ≤ wr (i : Int) ∧ wr (i : Int) < 26))
    (o3 : wr (i : Int) < wr (c : Int) → (0 ≤ wr (m 74 11) ∧ wr (m 74 11) < 32))
    (o4 : wr (i : Int) < wr (c : Int) → T (D + 6) 271 (30, [(0, zr 74), (3, zi (c : Int)), (4, zi ((i : Int) + 1))], [], (zu (zu m 81 ((wr (m 74 11)).toNat) (m 98 ((wr (i : Int)).toNat))) 74 11 ((m 74 11) + 1))) κ) :
    T (D + 6) 271 (30, lo, [], m) κ :=
  zkeep hT hlo (hT.1 [(30, [0, 3, 4])] 6 (D + 6) 271 _ κ (And.intro (fun a1 => (o1 a1)) (fun a2 => (hT.1 [(30, [0, 3, 4])] 6 (D + 6) 271 (41, [(0, zr 74), (3, zi (c : Int)), (4, zi (i : Int))], [zr 98, zr 74], m) _ (And.intro (o2 (Classical.byContradiction a2)) (hT.1 [] 6 (D + 5) 189 _ _ (And.intro (And.intro (o3 (Classical.byContradiction a2)) trivial) (hT.1 [] 6 (D + 5) 189 (10, [(0, zr 74), (1, zi (m 98 ((wr (i : Int)).toNat)))], [], (zu m 81 ((wr (m 74 11)).toNat) (m 98 ((wr (i : Int)).toNat)))) _ (And.intro trivial (hT.1 [] 6 (D + 5) 189 (20, [(0, zr 74), (1, zi (m 98 ((wr (i : Int)).toNat)))], [], (zu (zu m 81 ((wr (m 74 11)).toNat) (m 98 ((wr (i : Int)).toNat))) 74 11 ((m 74 11) + 1))) _ (hT.1 [(30, [0, 3, 4])] 6 (D + 6) 271 _ _ (o4 (Classical.byContradiction a2)))))))))))))
theorem zb271_30 (hT : zRules T) {D : Nat} {κ : Option zA → zM → Prop} {m : zM} {c : Nat} {i : Nat} {lo : zL} (hlo : z_keep [0, 3, 4] lo = [(0, zr 74), (3, zi (c : Int)), (4, zi (i : Int))])  (hB : zB m) (h_c : c ≤ 26) (h_i : i ≤ 26) 
    (k1 : ¬ (i : Int) < (c : Int) → κ (some (zi (c : Int))) m)
    (k2 : (i : Int) < (c : Int) → (0 ≤ (m 74 11) ∧ (m 74 11) < 32))
    (k3 : (i : Int) < (c : Int) → T (D + 6) 271 (30, [(0, zr 74), (3, zi (c : Int)), (4, zi ((i : Int) + 1))], [], (zu (zu m 81 ((m 74 11).toNat) (m 98 i)) 74 11 ((m 74 11) + 1))) κ) :
    T (D + 6) 271 (30, lo, [], m) κ := by
  have hb2 : 0 ≤ (m 74 11) ∧ (m 74 11) ≤ 32 := hB 74 11
  have he0 : wr (i : Int) = (i : Int) := wr_id (by omega) (by omega)
  have he1 : wr (c : Int) = (c : Int) := wr_id (by omega) (by omega)
  have he2 : (i : Int).toNat = i := by omega
  have he3 : wr (m 74 11) = (m 74 11) := wr_id (by omega) (by omega)
  have key := @zb271_30r T hT D κ m c i lo hlo
  simp only [he0, he1, he2, he3, Int.toNat_natCast] at key
  exact key
    k1
    (fun x0 => by refine ⟨?_, ?_⟩ <;> omega)
    k2
    k3
theorem zb48_0_58wr (hT : zRules T) {D : Nat} {κ : Option zA → zM → Prop} {m : zM} {n : Nat} 
    (o1 : 26 < wr (n : Int) → κ (none) (z_cp (zu m 72 1 26) 58 73 0 0 26))
    (o2 : ¬ 26 < wr (n : Int) → 0 < wr (wr (n : Int)) → ((0 : Int) ≤ 0 ∧ (0 : Int) ≤ 0 ∧ (0 : Int) ≤ wr ((zu m 72 1 (wr (wr (n : Int)))) 72 1) ∧ 0 + wr ((zu m 72 1 (wr (wr (n : Int)))) 72 1) ≤ 26 ∧ 0 + wr ((zu m 72 1 (wr (wr (n : Int)))) 72 1) ≤ 26))
    (o3 : ¬ 26 < wr (n : Int) → 0 < wr (wr (n : Int)) → κ (none) (z_cp (zu m 72 1 (wr (wr (n : Int)))) 58 73 0 0 ((wr ((zu m 72 1 (wr (wr (n : Int)))) 72 1)).toNat)))
    (o4 : ¬ 26 < wr (n : Int) → ¬ 0 < wr (wr (n : Int)) → κ (none) (z_cp (zu m 72 1 0) 58 73 0 0 0)) :
    T (D + 2) 48 (0, [(0, zr 72), (1, zr 58), (2, zi (n : Int))], [], m) κ :=
  hT.1 [] 6 (D + 2) 48 _ κ (hT.1 [] 6 (D + 2) 48 (6, [(0, zr 72), (1, zr 58), (2, zi (n : Int))], [zr 72, zi 26, zi (n : Int), zi 0, zr 72], m) _ (hT.1 [] 6 (D + 1) 294 _ _ (And.intro (fun a1 => (z_litF a1 rfl).elim) (fun _ => (hT.1 [] 6 (D + 2) 48 _ _ (hT.1 [] 6 (D + 1) 294 _ _ (And.intro (fun a2 => (hT.1 [] 6 (D + 2) 48 _ _ (hT.1 [] 6 (D + 1) 295 _ _ (And.intro (fun _ => (hT.1 [] 6 (D + 2) 48 _ _ (And.intro trivial (hT.1 [] 6 (D + 2) 48 (29, [(0, zr 72), (1, zr 58), (2, zi (n : Int))], [zi 0, zr 73, zi 0, zr 58], (zu m 72 1 26)) _ (And.intro (And.intro (z_leL rfl) (And.intro (z_leL rfl) (And.intro (z_leL rfl) (And.intro (z_leL rfl) (z_leL rfl))))) (o1 a2)))))) (fun a4 => (a4 (z_litT rfl)).elim))))) (fun a3 => (hT.1 [] 6 (D + 2) 48 _ _ (hT.1 [] 6 (D + 1) 295 _ _ (And.intro (fun a5 => (hT.1 [] 6 (D + 2) 48 _ _ (And.intro trivial (hT.1 [] 6 (D + 2) 48 (29, [(0, zr 72), (1, zr 58), (2, zi (n : Int))], [zi 0, zr 73, zi 0, zr 58], (zu m 72 1 (wr (wr (n : Int))))) _ (And.intro (o2 a3 a5) (o3 a3 a5)))))) (fun a6 => (hT.1 [] 6 (D + 2) 48 _ _ (And.intro trivial (hT.1 [] 6 (D + 2) 48 (29, [(0, zr 72), (1, zr 58), (2, zi (n : Int))], [zi 0, zr 73, zi 0, zr 58], (zu m 72 1 0)) _ (And.intro (And.intro (z_leL rfl) (And.intro (z_leL rfl) (And.intro (z_leL rfl) (And.intro (z_leL rfl) (z_leL rfl))))) (o4 a3 a6)))))))))))))))))
theorem zb48_0_58w (hT : zRules T) {D : Nat} {κ : Option zA → zM → Prop} {m : zM} {n : Nat}  (hB : zB m) (h_n : n ≤ 60) 
    (k1 : 26 < (n : Int) → zB (z_cp (zu m 72 1 26) 58 73 0 0 26) → κ (none) (z_cp (zu m 72 1 26) 58 73 0 0 26))
    (k2 : ¬ 26 < (n : Int) → 0 < (n : Int) → zB (z_cp (zu m 72 1 (n : Int)) 58 73 0 0 n) → κ (none) (z_cp (zu m 72 1 (n : Int)) 58 73 0 0 n))
    (k3 : ¬ 26 < (n : Int) → ¬ 0 < (n : Int) → zB (z_cp (zu m 72 1 0) 58 73 0 0 0) → κ (none) (z_cp (zu m 72 1 0) 58 73 0 0 0)) :
    T (D + 2) 48 (0, [(0, zr 72), (1, zr 58), (2, zi (n : Int))], [], m) κ := by
  have he0 : wr (n : Int) = (n : Int) := wr_id (by omega) (by omega)
  have he1 : ((zu m 72 1 (n : Int)) 72 1) = (n : Int) := (zu_sm rfl)
  have he2 : (n : Int).toNat = n := by omega
  have key := @zb48_0_58wr T hT D κ m n
  simp only [he0, he1, he2, Int.toNat_natCast] at key
  exact key
    (fun x0 => k1 x0 (zB_cp (zB_u hB (show 0 ≤ 26 ∧ 26 ≤ 26 from ⟨by omega, by omega⟩)) (fun _ _ _ => trivial)))
    (fun x0 x1 => by refine ⟨?_, ?_, ?_, ?_, ?_⟩ <;> omega)
    (fun x0 x1 => k2 x0 x1 (zB_cp (zB_u hB (show 0 ≤ (n : Int) ∧ (n : Int) ≤ 26 from ⟨by omega, by omega⟩)) (fun _ _ _ => trivial)))
    (fun x0 x1 => k3 x0 x1 (zB_cp (zB_u hB (show 0 ≤ 0 ∧ 0 ≤ 26 from ⟨by omega, by omega⟩)) (fun _ _ _ => trivial)))
end ZBlocks
end
-- 9p.way.lean.txt
section
/-! way(): it ends, and leaves what matters; THE TEXT is empty then. -/
noncomputable def noT : zLs := KL ++ (KH ++ (KM ++ (KU ++ (KK ++ (KS ++ (KJ ++ KX))))))
theorem Inv_nt {B : Int} {sc : zSc} {n k : Nat} {m M : zM} (hI : Inv B sc n k m) (hz : zB M) (h : Agree noT m M) (e1 : M 2 1 = 0) (e2 : M 74 9 = 0) : Inv B sc n k M := by
  have h0 : Agree coreK m (fun c j => if inL KT c j = true then m c j else M c j) := fun c j q => by
    show (if inL KT c j = true then m c j else M c j) = m c j
    by_cases e : inL KT c j = true
    · rw [if_pos e]
    · rw [if_neg e]
      refine h c j ?_
      obtain ⟨x, hx, hx2⟩ := List.any_eq_true.mp q
      rcases List.mem_append.mp hx with y | y
      · exact absurd (List.any_eq_true.mpr ⟨x, y, hx2⟩) e
      · exact List.any_eq_true.mpr ⟨x, y, hx2⟩
  obtain ⟨i1, i2, i3, i4, i5, i6, i7, i8, i9, i10, i11⟩ := hI
  have m1' : ∀ {L1 L2 : zLs} {q : Nat × Option Nat}, q ∈ L1 → q ∈ L1 ++ L2 := fun q => List.mem_append.mpr (Or.inl q)
  have m2' : ∀ {L1 L2 : zLs} {q : Nat × Option Nat}, q ∈ L2 → q ∈ L1 ++ L2 := fun q => List.mem_append.mpr (Or.inr q)
  refine ⟨hz, ⟨by rw [e1, e2], fun j hj => by rw [e1] at hj; omega⟩, (h.sub (K2 := KL) (fun q hq => m1' hq)).law.1 i3, House_fr (h.sub (fun q hq => m2' (m1' hq))) i4, Term_fr (h.sub (fun q hq => m2' (m2' (m1' hq)))) i5, Undo_fr (h.sub (fun q hq => m2' (m2' (m2' (m1' hq))))) i6, Kept_fr (h.sub (fun q hq => m2' (m2' (m2' (m2' (m1' hq)))))) i7, Seen_fr (h.sub (fun q hq => m2' (m2' (m2' (m2' (m2' (m1' hq))))))) i8, Job_fr (h.sub (fun q hq => m2' (m2' (m2' (m2' (m2' (m2' (m1' hq)))))))) i9, ?_, ?_⟩
  · rw [h 75 57 rfl]
    exact i10
  · exact Scr_fr (h.sub (fun q hq => m2' (m2' (m2' (m2' (m2' (m2' (m2' hq)))))))) i11
section ZWay
variable {T : Nat → Nat → zG → (Option zA → zM → Prop) → Prop} {B : Int}
theorem z_readWayR0 (hT : zRules T) {D : Nat} {κ : Option zA → zM → Prop} {m : zM} {n : Nat} {v : Int} (hB : zB m) (hR : LawRel m) (hn : m 74 4 = (n : Int)) (hn6 : n ≤ 6) (hv : isI v)
    (hk : ∀ r M, isI r → zB M → zFr (inL ([(74, some 9), (74, some 49), (97, none)] ++ lbL)) m M → M 74 9 = 0 → κ (some (zi r)) M) : T (D + 171) 267 (0, [(0, zr 74), (1, zi v)], [], m) κ := by
  have b9 : 0 ≤ m 74 9 ∧ m 74 9 ≤ 80 := hB 74 9
  have t9 : zFr (inL ([(74, some 9), (74, some 49), (97, none)] ++ lbL)) m (zu m 74 9 0) := zFr.refl.set rfl
  have x9 : (zu m 74 9 0) 74 9 = 0 := by rw [zu_sm rfl]
  refine zb267_0 (D := D + 166) hT hB hv (fun _ hz => hk _ _ (by unfold isI; omega) hz t9 x9) (fun _ _ hz => hk _ _ (by unfold isI; omega) hz t9 x9) (fun q1 q2 hz => ?_)
  obtain ⟨p, rfl⟩ : ∃ p : Nat, v = (p : Int) := ⟨v.toNat, by omega⟩
  obtain ⟨L, hL⟩ : ∃ L : Nat, m 74 9 = (L : Int) := ⟨(m 74 9).toNat, by omega⟩
  rw [hL]
  generalize zu m 74 9 0 = M at hz t9 x9 ⊢
  have second : ∀ (j i : Nat) (M2 : zM), i + j = L → L ≤ 26 → (∀ q, q < L → 48 ≤ M2 80 q ∧ M2 80 q ≤ 51) → zB M2 → zFr (inL ([(74, some 9), (74, some 49), (97, none)] ++ lbL)) m M2 → M2 74 9 = 0 → T (D + 171) 267 (68, [(0, zr 74), (1, zi (p : Int)), (2, zi (L : Int)), (3, zi (i : Int))], [], M2) κ := by
    intro j
    induction j with
    | zero =>
      intro i M2 hi hL26 h80 hB2 hF h9
      exact zb267_68 (D := D + 166) hT rfl hB2 (by omega) hL26 (by omega) (fun _ hz2 => hk _ _ (by unfold isI; omega) hz2 (hF.set rfl) (by rw [zu_off (by omega), h9])) (fun q => by omega)
    | succ j ih =>
      intro i M2 hi hL26 h80 hB2 hF h9
      refine zb267_68 (D := D + 166) hT rfl hB2 (by omega) hL26 (by omega) (fun q => by omega) (fun _ => ?_)
      have h8 := h80 i (by omega)
      have b57 : 0 ≤ M2 75 57 ∧ M2 75 57 ≤ 400000 := hB2 75 57
      obtain ⟨pl, hpl⟩ : ∃ pl : Nat, M2 80 i - 48 = (pl : Int) := ⟨(M2 80 i - 48).toNat, by omega⟩
      rw [hpl]
      have hA : Agree KL m M2 := .of hF rfl
      refine z_lawOf hT hB2 (by omega) (by omega) (by omega) (hA.law.1 hR) (fun M3 hB3 hF3 => ?_)
      have hF3b := hF3.sub lbWL
      have hFa : zFr (inL ([(74, some 9), (74, some 49), (97, none)] ++ lbL)) m M3 := hF.trans (hF3b.sub (inL_sub (by decide)))
      refine zb267_101 (D := D + 166) hT rfl hB3 (by omega) hL26 (by omega) LWB (by omega) (fun hz4 => ?_)
      exact ih (i + 1) _ (by omega) hL26 (fun q hq => by rw [zu_dn (by omega), hF3b 80 q rfl]; exact h80 q hq) hz4 (hFa.set rfl) (by rw [zu_dn (by omega), hF3b 74 9 rfl, h9])
  have first : ∀ (j i : Nat), i + j = L → i ≤ 26 → (∀ q, q < i → 48 ≤ M 80 q ∧ M 80 q ≤ 51) → T (D + 171) 267 (23, [(0, zr 74), (1, zi (p : Int)), (2, zi (L : Int)), (3, zi (i : Int))], [], M) κ := by
    intro j
    induction j with
    | zero =>
      intro i hi h26 h80
      exact zb267_23 (D := D + 166) hT rfl hz (by omega) (by omega) (by omega) (fun _ _ => second L 0 M (by omega) (by omega) (fun q hq => h80 q (by omega)) hz t9 x9) (fun _ _ => hk _ _ (by unfold isI; omega) hz t9 x9) (fun q => by omega) (fun q => by omega) (fun q => by omega) (fun q => by omega)
    | succ j ih =>
      intro i hi h26 h80
      have r1 : isI ((-1) - (i : Int)) := by unfold isI; omega
      refine zb267_23 (D := D + 166) hT rfl hz (by omega) (by omega) (by omega) (fun q => by omega) (fun q => by omega) (fun _ _ => hk _ _ r1 hz t9 x9) (fun _ _ _ => hk _ _ r1 hz t9 x9) (fun _ _ _ _ => hk _ _ r1 hz t9 x9) (fun _ c1 c2 c3 => ?_)
      refine ih (i + 1) (by omega) (by omega) (fun q hq => ?_)
      by_cases e : q = i
      · rw [e]
        omega
      · exact h80 q (by omega)
  exact first L 0 (by omega) (by omega) (fun q hq => by omega)
theorem w_way0 (hT : zRules T) {v : Int} (hv : isI v) : Way T 146 271 [(0, zr 1), (1, zi v)] [(0, zr 74), (1, zi v)] 7 172 B B False := by
  rintro D m sc ⟨n, k, hI⟩ κ hκ
  have hI0 := hI
  have i1 := hI.1
  have b17 : 0 ≤ m 17 0 ∧ m 17 0 ≤ 6 := i1 17 0
  obtain ⟨n1, n2⟩ := hI.2.2.2.1.1
  have ref : ∀ (r : Option zA) (M0 : zM), zB M0 → Agree noT m M0 → M0 2 1 = 0 → κ r M0 := by
    intro r M0 hB0 hA0 e21
    refine hκ _ _ (fun D2 κ2 h2 => ?_)
    have fin : ∀ r2 M1, zB M1 → Agree noT m M1 → M1 2 1 = 0 → M1 74 9 = 0 → κ2 r2 M1 := fun r2 M1 hB1 hA1 f1 f2 => h2 _ _ (fun x => x.elim) ⟨n, k, Inv_nt hI0 hB1 hA1 f1 f2⟩
    refine zb271_0 (D := D2 + 166) hT hB0 hv (fun hz => ?_)
    have hA1 : Agree noT m (zu M0 74 12 0) := hA0.trans (.of (L := [(74, some 12)]) (zFr.refl.set rfl) rfl)
    have e21b : (zu M0 74 12 0) 2 1 = 0 := by rw [zu_dn (by omega), e21]
    generalize zu M0 74 12 0 = M at hz hA1 e21b ⊢
    have hAL : Agree KL m M := hA1.sub (fun q hq => List.mem_append.mpr (Or.inl hq))
    refine z_readWayR0 (n := n) hT hz (hAL.law.1 hI.2.2.1) ((hA1 74 4 rfl).trans n2) (by omega) hv (fun s M1 hs hB1 hF1 h9 => ?_)
    have hA2 : Agree noT m M1 := hA1.trans (.of hF1 rfl)
    have f21 : M1 2 1 = 0 := by rw [hF1 2 1 rfl, e21b]
    refine zb271_10 (D := D2 + 166) hT rfl hB1 hs (fun _ => ?_) (fun _ => fin _ _ hB1 hA2 f21 h9)
    have b49 : 0 ≤ M1 74 49 ∧ M1 74 49 ≤ 26 := hB1 74 49
    obtain ⟨N, hN⟩ : ∃ N : Nat, M1 74 49 = (N : Int) := ⟨(M1 74 49).toNat, by omega⟩
    refine z_findTaken0 (D := D2 + 166) (N := N) hT hB1 hN (by omega) (fun c M3 hc hB3 hF3 _ => ?_)
    refine zb271_21 (D := D2 + 166) hT rfl hB3 (by omega) (fun hz4 => ?_)
    have hA3 : Agree noT m M3 := hA2.trans (.of hF3 rfl)
    have loop : ∀ (j i : Nat) (M4 : zM), i + j = c → zB M4 → M4 74 11 = (i : Int) → Agree noT m M4 → M4 2 1 = 0 → M4 74 9 = 0 → T (D2 + 172) 271 (30, [(0, zr 74), (3, zi (c : Int)), (4, zi (i : Int))], [], M4) κ2 := by
      intro j
      induction j with
      | zero =>
        intro i M4 hi hB4 h11 hA4 f1 f2
        exact zb271_30 (D := D2 + 166) hT rfl hB4 (by omega) (by omega) (fun _ => fin _ _ hB4 hA4 f1 f2) (fun q => by omega) (fun q => by omega)
      | succ j ih =>
        intro i M4 hi hB4 h11 hA4 f1 f2
        refine zb271_30 (D := D2 + 166) hT rfl hB4 (by omega) (by omega) (fun q => by omega) (fun _ => by omega) (fun _ => ?_)
        refine ih (i + 1) _ (by omega) (zB_u (zB_u hB4 trivial) ?_) (by rw [zu_sm rfl, h11]; omega) (hA4.trans (.of (L := [(74, some 11), (81, none)]) ((zFr.refl.set rfl).set rfl) rfl)) (by rw [zu_dn (by omega), zu_dn (by omega), f1]) (by rw [zu_off (by omega), zu_dn (by omega), f2])
        show 0 ≤ M4 74 11 + 1 ∧ M4 74 11 + 1 ≤ 32
        omega
    exact loop c 0 _ (by omega) hz4 (by rw [zu_sm rfl]; rfl) (hA3.trans (.of (L := [(74, some 11)]) (zFr.refl.set rfl) rfl)) (by rw [zu_dn (by omega), hF3 2 1 rfl, f21]) (by rw [zu_off (by omega), hF3 74 9 rfl, h9])
  refine zb146_0 hT i1 hv ?_
  refine z_readWayC0 hT hI0 hv (fun r M hr hBM hF e21 _ => ?_)
  have hA : Agree noT m M := .of hF rfl
  refine zb146_5 hT rfl hBM hr (fun _ => ?_) (fun _ => ref _ _ hBM hA e21)
  have b24 : 0 ≤ M 24 0 ∧ M 24 0 ≤ 9 := hBM 24 0
  refine z_packFew0 (D := D + 2) hT hBM b24 (fun c M2 hc hB2 hF2 => ?_)
  have b52 : 0 ≤ M 52 1 ∧ M 52 1 ≤ 60 := hBM 52 1
  have hA2 : Agree noT m M2 := hA.trans (.of hF2 rfl)
  have g21 : M2 2 1 = 0 := by rw [hF2 2 1 rfl, e21]
  refine zb146_26 hT rfl hB2 (by omega) ?_
  refine zb48_0_58w (D := D + 4) hT hB2 (by omega) (fun _ hz => ?_) (fun _ _ hz => ?_) (fun _ _ hz => ?_)
  · exact zb146_42 hT rfl (by omega) (ref _ _ hz (hA2.trans (.of (L := [(72, some 1), (73, none)]) ((zFr.refl.set rfl).cp (fun _ => rfl)) rfl)) (by rw [z_cp_dn (by omega), zu_dn (by omega), g21]))
  · exact zb146_42 hT rfl (by omega) (ref _ _ hz (hA2.trans (.of (L := [(72, some 1), (73, none)]) ((zFr.refl.set rfl).cp (fun _ => rfl)) rfl)) (by rw [z_cp_dn (by omega), zu_dn (by omega), g21]))
  · exact zb146_42 hT rfl (by omega) (ref _ _ hz (hA2.trans (.of (L := [(72, some 1), (73, none)]) ((zFr.refl.set rfl).cp (fun _ => rfl)) rfl)) (by rw [z_cp_dn (by omega), zu_dn (by omega), g21]))
end ZWay
end
-- 9q.b25.lean.txt
section
section ZBlocks
variable {T : Nat → Nat → zG → (Option zA → zM → Prop) → Prop}
theorem zb178_0r (hT : zRules T) {D : Nat} {κ : Option zA → zM → Prop} {m : zM} {v : Int} 
    (o1 : wr v < 1 → κ (some (zi (-1))) m)
    (o2 : ¬ wr v < 1 → ¬ 999 < wr v → T (D + 3) 11 (0, [(0, zr 25), (1, zi v)], [], m) (fun r m1 => T (D + 4) 178 (24, [(0, zr 1), (1, zi v)], r.toList ++ [], m1) κ))
    (o3 : ¬ wr v < 1 → 999 < wr v → κ (some (zi (-1))) m) :
    T (D + 4) 178 (0, [(0, zr 1), (1, zi v)], [], m) κ :=
  hT.1 [] 6 (D + 4) 178 _ κ (And.intro (fun a1 => (o1 a1)) (fun a2 => (And.intro (fun a3 => (hT.1 [] 6 (D + 4) 178 (16, [(0, zr 1), (1, zi v)], [], m) _ (o2 a2 a3))) (fun a4 => (hT.1 [] 6 (D + 4) 178 (12, [(0, zr 1), (1, zi v)], [], m) _ (o3 a2 (Classical.byContradiction a4)))))))
theorem zb178_0 (hT : zRules T) {D : Nat} {κ : Option zA → zM → Prop} {m : zM} {v : Int}  (hB : zB m) (h_v : (-2147483648) ≤ v ∧ v ≤ 2147483647) 
    (k1 : v < 1 → κ (some (zi (-1))) m)
    (k2 : ¬ v < 1 → ¬ 999 < v → T (D + 3) 11 (0, [(0, zr 25), (1, zi v)], [], m) (fun r m1 => T (D + 4) 178 (24, [(0, zr 1), (1, zi v)], r.toList ++ [], m1) κ))
    (k3 : ¬ v < 1 → 999 < v → κ (some (zi (-1))) m) :
    T (D + 4) 178 (0, [(0, zr 1), (1, zi v)], [], m) κ := by
  have he0 : wr v = v := wr_id (by omega) (by omega)
  have key := @zb178_0r T hT D κ m v
  simp only [he0, Int.toNat_natCast] at key
  exact key
    k1
    k2
    k3
theorem zb178_24r (hT : zRules T) {D : Nat} {κ : Option zA → zM → Prop} {m : zM} {v : Int} {lo : zL} (hlo : z_keep [] lo = []) 
    (o1 : κ (some (zi (wr v))) m) :
    T (D + 4) 178 (24, lo, [zi v], m) κ :=
  zkeep hT hlo (hT.1 [] 6 (D + 4) 178 _ κ (o1))
theorem zb178_24 (hT : zRules T) {D : Nat} {κ : Option zA → zM → Prop} {m : zM} {v : Int} {lo : zL} (hlo : z_keep [] lo = [])  (h_v : (-2147483648) ≤ v ∧ v ≤ 2147483647) 
    (k1 : κ (some (zi v)) m) :
    T (D + 4) 178 (24, lo, [zi v], m) κ := by
  have he0 : wr v = v := wr_id (by omega) (by omega)
  have key := @zb178_24r T hT D κ m v lo hlo
  simp only [he0, Int.toNat_natCast] at key
  exact key
    k1
theorem zb11_0r (hT : zRules T) {D : Nat} {κ : Option zA → zM → Prop} {m : zM} {v : Nat} 
    (o1 : T (D + 2) 8 (0, [(0, zr 25)], [], m) (fun r m1 => T (D + 3) 11 (4, [(0, zr 25), (1, zi (v : Int))], r.toList ++ [], m1) κ)) :
    T (D + 3) 11 (0, [(0, zr 25), (1, zi (v : Int))], [], m) κ :=
  hT.1 [(35, [0, 3, 4, 5])] 6 (D + 3) 11 _ κ (o1)
theorem zb11_0 (hT : zRules T) {D : Nat} {κ : Option zA → zM → Prop} {m : zM} {v : Nat}  (hB : zB m) (h_v : v ≤ 999) 
    (k1 : T (D + 2) 8 (0, [(0, zr 25)], [], m) (fun r m1 => T (D + 3) 11 (4, [(0, zr 25), (1, zi (v : Int))], r.toList ++ [], m1) κ)) :
    T (D + 3) 11 (0, [(0, zr 25), (1, zi (v : Int))], [], m) κ := by
  exact zb11_0r hT
    k1
theorem zb11_4r (hT : zRules T) {D : Nat} {κ : Option zA → zM → Prop} {m : zM} {v : Nat} {s : Nat} {lo : zL} (hlo : z_keep [0, 1] lo = [(0, zr 25), (1, zi (v : Int))]) 
    (o1 : ¬ wr (s : Int) < wr (v : Int) → wr (((v : Int) + 108) - 1) < wr (s : Int) → T (D + 2) 12 (0, [(0, zr 25), (1, zi (wr (((v : Int) + 108) - 1)))], [], m) (fun r m1 => T (D + 3) 11 (29, [(0, zr 25), (1, zi (v : Int)), (2, zi (s : Int)), (3, zi (wr (((v : Int) + 108) - 1)))], r.toList ++ [], m1) κ))
    (o2 : ¬ wr (s : Int) < wr (v : Int) → ¬ wr (((v : Int) + 108) - 1) < wr (s : Int) → T (D + 2) 12 (0, [(0, zr 25), (1, zi (wr (s : Int)))], [], m) (fun r m1 => T (D + 3) 11 (29, [(0, zr 25), (1, zi (v : Int)), (2, zi (s : Int)), (3, zi (wr (s : Int)))], r.toList ++ [], m1) κ))
    (o3 : wr (s : Int) < wr (v : Int) → κ (some (zi (-2))) m) :
    T (D + 3) 11 (4, lo, [zi (s : Int)], m) κ :=
  zkeep hT hlo (hT.1 [(35, [0, 3, 4, 5])] 6 (D + 3) 11 _ κ (And.intro (fun a1 => (hT.1 [(35, [0, 3, 4, 5])] 6 (D + 3) 11 (15, [(0, zr 25), (1, zi (v : Int)), (2, zi (s : Int))], [zi (v : Int), zi (s : Int)], m) _ (hT.1 [] 6 (D + 2) 294 _ _ (And.intro (fun a3 => (hT.1 [(35, [0, 3, 4, 5])] 6 (D + 3) 11 _ _ (o1 a1 a3))) (fun a4 => (hT.1 [(35, [0, 3, 4, 5])] 6 (D + 3) 11 _ _ (o2 a1 a4))))))) (fun a2 => (o3 (Classical.byContradiction a2)))))
theorem zb11_4 (hT : zRules T) {D : Nat} {κ : Option zA → zM → Prop} {m : zM} {v : Nat} {s : Nat} {lo : zL} (hlo : z_keep [0, 1] lo = [(0, zr 25), (1, zi (v : Int))])  (hB : zB m) (h_v : v ≤ 999) (h_s : s ≤ 2160) 
    (k1 : ¬ (s : Int) < (v : Int) → (((v : Int) + 108) - 1) < (s : Int) → T (D + 2) 12 (0, [(0, zr 25), (1, zi (((v : Int) + 108) - 1))], [], m) (fun r m1 => T (D + 3) 11 (29, [(0, zr 25), (1, zi (v : Int)), (2, zi (s : Int)), (3, zi (((v : Int) + 108) - 1))], r.toList ++ [], m1) κ))
    (k2 : ¬ (s : Int) < (v : Int) → ¬ (((v : Int) + 108) - 1) < (s : Int) → T (D + 2) 12 (0, [(0, zr 25), (1, zi (s : Int))], [], m) (fun r m1 => T (D + 3) 11 (29, [(0, zr 25), (1, zi (v : Int)), (2, zi (s : Int)), (3, zi (s : Int))], r.toList ++ [], m1) κ))
    (k3 : (s : Int) < (v : Int) → κ (some (zi (-2))) m) :
    T (D + 3) 11 (4, lo, [zi (s : Int)], m) κ := by
  have he0 : wr (s : Int) = (s : Int) := wr_id (by omega) (by omega)
  have he1 : wr (v : Int) = (v : Int) := wr_id (by omega) (by omega)
  have he2 : wr (((v : Int) + 108) - 1) = (((v : Int) + 108) - 1) := wr_id (by omega) (by omega)
  have key := @zb11_4r T hT D κ m v s lo hlo
  simp only [he0, he1, he2, Int.toNat_natCast] at key
  exact key
    k1
    k2
    k3
theorem zb11_29r (hT : zRules T) {D : Nat} {κ : Option zA → zM → Prop} {m : zM} {v : Nat} {e : Nat} {lo : zL} (hlo : z_keep [0, 1, 3] lo = [(0, zr 25), (1, zi (v : Int)), (3, zi (e : Int))]) 
    (o1 : T (D + 3) 11 (35, [(0, zr 25), (3, zi (e : Int)), (4, zi 0), (5, zi (v : Int))], [], m) κ) :
    T (D + 3) 11 (29, lo, [], m) κ :=
  zkeep hT hlo (hT.1 [(35, [0, 3, 4, 5])] 6 (D + 3) 11 _ κ (o1))
theorem zb11_29 (hT : zRules T) {D : Nat} {κ : Option zA → zM → Prop} {m : zM} {v : Nat} {e : Nat} {lo : zL} (hlo : z_keep [0, 1, 3] lo = [(0, zr 25), (1, zi (v : Int)), (3, zi (e : Int))])  (hB : zB m) (h_v : v ≤ 999) (h_e : e ≤ 1106) 
    (k1 : T (D + 3) 11 (35, [(0, zr 25), (3, zi (e : Int)), (4, zi 0), (5, zi (v : Int))], [], m) κ) :
    T (D + 3) 11 (29, lo, [], m) κ := by
  exact zb11_29r hT hlo
    k1
theorem zb11_35r (hT : zRules T) {D : Nat} {κ : Option zA → zM → Prop} {m : zM} {e : Nat} {f : Nat} {s : Nat} {lo : zL} (hlo : z_keep [0, 3, 4, 5] lo = [(0, zr 25), (3, zi (e : Int)), (4, zi (f : Int)), (5, zi (s : Int))]) 
    (o1 : wr (e : Int) < wr (s : Int) → T (D + 2) 293 (0, [(0, zi ((f : Int) - 1))], [], m) (fun r m1 => T (D + 3) 11 (107, [(0, zr 25), (3, zi (e : Int)), (4, zi (f : Int)), (5, zi (s : Int))], r.toList ++ [], m1) κ))
    (o2 : ¬ wr (e : Int) < wr (s : Int) → (0 ≤ wr (((m 25 2) * 1107) + (s : Int)) ∧ wr (((m 25 2) * 1107) + (s : Int)) < 23247))
    (o3 : ¬ wr (e : Int) < wr (s : Int) → wr (z_and (m 27 ((wr (((m 25 2) * 1107) + (s : Int))).toNat)) (-(m 27 ((wr (((m 25 2) * 1107) + (s : Int))).toNat)))) = 0 → T (D + 3) 11 (35, [(0, zr 25), (3, zi (e : Int)), (4, zi (f : Int)), (5, zi ((s : Int) + 1))], [], m) κ)
    (o4 : ¬ wr (e : Int) < wr (s : Int) → ¬ wr (z_and (m 27 ((wr (((m 25 2) * 1107) + (s : Int))).toNat)) (-(m 27 ((wr (((m 25 2) * 1107) + (s : Int))).toNat)))) = 0 → wr (f : Int) = 0 → T (D + 3) 11 (35, [(0, zr 25), (3, zi (e : Int)), (4, zi (z_and (m 27 ((wr (((m 25 2) * 1107) + (s : Int))).toNat)) (-(m 27 ((wr (((m 25 2) * 1107) + (s : Int))).toNat))))), (5, zi ((s : Int) + 1))], [], (zu m 25 4 (s : Int))) κ)
    (o5 : ¬ wr (e : Int) < wr (s : Int) → ¬ wr (z_and (m 27 ((wr (((m 25 2) * 1107) + (s : Int))).toNat)) (-(m 27 ((wr (((m 25 2) * 1107) + (s : Int))).toNat)))) = 0 → ¬ wr (f : Int) = 0 → ¬ wr (z_and (m 27 ((wr (((m 25 2) * 1107) + (s : Int))).toNat)) (-(m 27 ((wr (((m 25 2) * 1107) + (s : Int))).toNat)))) < wr (f : Int) → T (D + 3) 11 (35, [(0, zr 25), (3, zi (e : Int)), (4, zi (f : Int)), (5, zi ((s : Int) + 1))], [], m) κ)
    (o6 : ¬ wr (e : Int) < wr (s : Int) → ¬ wr (z_and (m 27 ((wr (((m 25 2) * 1107) + (s : Int))).toNat)) (-(m 27 ((wr (((m 25 2) * 1107) + (s : Int))).toNat)))) = 0 → ¬ wr (f : Int) = 0 → wr (z_and (m 27 ((wr (((m 25 2) * 1107) + (s : Int))).toNat)) (-(m 27 ((wr (((m 25 2) * 1107) + (s : Int))).toNat)))) < wr (f : Int) → T (D + 3) 11 (35, [(0, zr 25), (3, zi (e : Int)), (4, zi (z_and (m 27 ((wr (((m 25 2) * 1107) + (s : Int))).toNat)) (-(m 27 ((wr (((m 25 2) * 1107) + (s : Int))).toNat))))), (5, zi ((s : Int) + 1))], [], (zu m 25 4 (s : Int))) κ) :
    T (D + 3) 11 (35, lo, [], m) κ :=
  zkeep hT hlo (hT.1 [(35, [0, 3, 4, 5])] 6 (D + 3) 11 _ κ (And.intro (fun a1 => (hT.1 [(35, [0, 3, 4, 5])] 6 (D + 3) 11 (104, [(0, zr 25), (3, zi (e : Int)), (4, zi (f : Int)), (5, zi (s : Int))], [zi ((f : Int) - 1)], m) _ (o1 a1))) (fun a2 => (hT.1 [(35, [0, 3, 4, 5])] 6 (D + 3) 11 (46, [(0, zr 25), (3, zi (e : Int)), (4, zi (f : Int)), (5, zi (s : Int))], [zr 25, zr 27], m) _ (And.intro (o2 a2) (hT.1 [(35, [0, 3, 4, 5])] 6 (D + 3) 11 (57, [(0, zr 25), (3, zi (e : Int)), (4, zi (f : Int)), (5, zi (s : Int))], [zi (m 27 ((wr (((m 25 2) * 1107) + (s : Int))).toNat))], m) _ (hT.1 [(35, [0, 3, 4, 5])] 6 (D + 3) 11 (67, [(0, zr 25), (3, zi (e : Int)), (4, zi (f : Int)), (5, zi (s : Int)), (6, zi (m 27 ((wr (((m 25 2) * 1107) + (s : Int))).toNat))), (7, zi (z_and (m 27 ((wr (((m 25 2) * 1107) + (s : Int))).toNat)) (-(m 27 ((wr (((m 25 2) * 1107) + (s : Int))).toNat)))))], [], m) _ (And.intro (fun a3 => (o3 a2 a3)) (fun a4 => (And.intro (fun a5 => (hT.1 [(35, [0, 3, 4, 5])] 6 (D + 3) 11 (88, [(0, zr 25), (3, zi (e : Int)), (4, zi (z_and (m 27 ((wr (((m 25 2) * 1107) + (s : Int))).toNat)) (-(m 27 ((wr (((m 25 2) * 1107) + (s : Int))).toNat))))), (5, zi (s : Int)), (6, zi (m 27 ((wr (((m 25 2) * 1107) + (s : Int))).toNat))), (7, zi (z_and (m 27 ((wr (((m 25 2) * 1107) + (s : Int))).toNat)) (-(m 27 ((wr (((m 25 2) * 1107) + (s : Int))).toNat)))))], [], m) _ (And.intro trivial (o4 a2 a4 a5)))) (fun a6 => (hT.1 [(35, [0, 3, 4, 5])] 6 (D + 3) 11 (81, [(0, zr 25), (3, zi (e : Int)), (4, zi (f : Int)), (5, zi (s : Int)), (6, zi (m 27 ((wr (((m 25 2) * 1107) + (s : Int))).toNat))), (7, zi (z_and (m 27 ((wr (((m 25 2) * 1107) + (s : Int))).toNat)) (-(m 27 ((wr (((m 25 2) * 1107) + (s : Int))).toNat)))))], [zi (f : Int), zi (z_and (m 27 ((wr (((m 25 2) * 1107) + (s : Int))).toNat)) (-(m 27 ((wr (((m 25 2) * 1107) + (s : Int))).toNat))))], m) _ (And.intro (fun a7 => (o5 a2 a4 a6 a7)) (fun a8 => (And.intro trivial (hT.1 [(35, [0, 3, 4, 5])] 6 (D + 3) 11 (94, [(0, zr 25), (3, zi (e : Int)), (4, zi (z_and (m 27 ((wr (((m 25 2) * 1107) + (s : Int))).toNat)) (-(m 27 ((wr (((m 25 2) * 1107) + (s : Int))).toNat))))), (5, zi (s : Int)), (6, zi (m 27 ((wr (((m 25 2) * 1107) + (s : Int))).toNat))), (7, zi (z_and (m 27 ((wr (((m 25 2) * 1107) + (s : Int))).toNat)) (-(m 27 ((wr (((m 25 2) * 1107) + (s : Int))).toNat)))))], [], (zu m 25 4 (s : Int))) _ (o6 a2 a4 a6 (Classical.byContradiction a8))))))))))))))))))
theorem zb11_35 (hT : zRules T) {D : Nat} {κ : Option zA → zM → Prop} {m : zM} {e : Nat} {f : Nat} {s : Nat} {lo : zL} (hlo : z_keep [0, 3, 4, 5] lo = [(0, zr 25), (3, zi (e : Int)), (4, zi (f : Int)), (5, zi (s : Int))])  (hB : zB m) (h_e : e ≤ 1106) (h_f : f ≤ 2097152) (h_s : s ≤ 1107) 
    (k1 : (e : Int) < (s : Int) → T (D + 2) 293 (0, [(0, zi ((f : Int) - 1))], [], m) (fun r m1 => T (D + 3) 11 (107, [(0, zr 25), (3, zi (e : Int)), (4, zi (f : Int)), (5, zi (s : Int))], r.toList ++ [], m1) κ))
    (k2 : ¬ (e : Int) < (s : Int) → (z_and (m 27 ((((m 25 2) * 1107) + (s : Int)).toNat)) (-(m 27 ((((m 25 2) * 1107) + (s : Int)).toNat)))) = 0 → T (D + 3) 11 (35, [(0, zr 25), (3, zi (e : Int)), (4, zi (f : Int)), (5, zi ((s : Int) + 1))], [], m) κ)
    (k3 : ¬ (e : Int) < (s : Int) → ¬ (z_and (m 27 ((((m 25 2) * 1107) + (s : Int)).toNat)) (-(m 27 ((((m 25 2) * 1107) + (s : Int)).toNat)))) = 0 → (f : Int) = 0 → zB (zu m 25 4 (s : Int)) → T (D + 3) 11 (35, [(0, zr 25), (3, zi (e : Int)), (4, zi (z_and (m 27 ((((m 25 2) * 1107) + (s : Int)).toNat)) (-(m 27 ((((m 25 2) * 1107) + (s : Int)).toNat))))), (5, zi ((s : Int) + 1))], [], (zu m 25 4 (s : Int))) κ)
    (k4 : ¬ (e : Int) < (s : Int) → ¬ (z_and (m 27 ((((m 25 2) * 1107) + (s : Int)).toNat)) (-(m 27 ((((m 25 2) * 1107) + (s : Int)).toNat)))) = 0 → ¬ (f : Int) = 0 → ¬ (z_and (m 27 ((((m 25 2) * 1107) + (s : Int)).toNat)) (-(m 27 ((((m 25 2) * 1107) + (s : Int)).toNat)))) < (f : Int) → T (D + 3) 11 (35, [(0, zr 25), (3, zi (e : Int)), (4, zi (f : Int)), (5, zi ((s : Int) + 1))], [], m) κ)
    (k5 : ¬ (e : Int) < (s : Int) → ¬ (z_and (m 27 ((((m 25 2) * 1107) + (s : Int)).toNat)) (-(m 27 ((((m 25 2) * 1107) + (s : Int)).toNat)))) = 0 → ¬ (f : Int) = 0 → (z_and (m 27 ((((m 25 2) * 1107) + (s : Int)).toNat)) (-(m 27 ((((m 25 2) * 1107) + (s : Int)).toNat)))) < (f : Int) → zB (zu m 25 4 (s : Int)) → T (D + 3) 11 (35, [(0, zr 25), (3, zi (e : Int)), (4, zi (z_and (m 27 ((((m 25 2) * 1107) + (s : Int)).toNat)) (-(m 27 ((((m 25 2) * 1107) + (s : Int)).toNat))))), (5, zi ((s : Int) + 1))], [], (zu m 25 4 (s : Int))) κ) :
    T (D + 3) 11 (35, lo, [], m) κ := by
  have hb3 : 0 ≤ (m 25 2) ∧ (m 25 2) ≤ 20 := hB 25 2
  have hb4 : (-2147483648) ≤ (z_and (m 27 ((((m 25 2) * 1107) + (s : Int)).toNat)) (-(m 27 ((((m 25 2) * 1107) + (s : Int)).toNat)))) ∧ (z_and (m 27 ((((m 25 2) * 1107) + (s : Int)).toNat)) (-(m 27 ((((m 25 2) * 1107) + (s : Int)).toNat)))) ≤ 2147483647 := z_andB (m 27 ((((m 25 2) * 1107) + (s : Int)).toNat)) (-(m 27 ((((m 25 2) * 1107) + (s : Int)).toNat)))
  have he0 : wr (e : Int) = (e : Int) := wr_id (by omega) (by omega)
  have he1 : wr (s : Int) = (s : Int) := wr_id (by omega) (by omega)
  have he2 : wr (((m 25 2) * 1107) + (s : Int)) = (((m 25 2) * 1107) + (s : Int)) := wr_id (by omega) (by omega)
  have he3 : wr (z_and (m 27 ((((m 25 2) * 1107) + (s : Int)).toNat)) (-(m 27 ((((m 25 2) * 1107) + (s : Int)).toNat)))) = (z_and (m 27 ((((m 25 2) * 1107) + (s : Int)).toNat)) (-(m 27 ((((m 25 2) * 1107) + (s : Int)).toNat)))) := wr_id (by omega) (by omega)
  have he4 : wr (f : Int) = (f : Int) := wr_id (by omega) (by omega)
  have key := @zb11_35r T hT D κ m e f s lo hlo
  simp only [he0, he1, he2, he3, he4, Int.toNat_natCast] at key
  exact key
    k1
    (fun x0 => by refine ⟨?_, ?_⟩ <;> omega)
    k2
    (fun x0 x1 x2 => k3 x0 x1 x2 (zB_u hB trivial))
    k4
    (fun x0 x1 x2 x3 => k5 x0 x1 x2 x3 (zB_u hB trivial))
theorem zb11_107r (hT : zRules T) {D : Nat} {κ : Option zA → zM → Prop} {m : zM} {n : Nat} {lo : zL} (hlo : z_keep [0] lo = [(0, zr 25)]) 
    (o1 : T (D + 2) 13 (0, [(0, zr 25), (1, zi (n : Int)), (2, zi (m 25 4))], [], m) (fun r m1 => T (D + 3) 11 (120, [(0, zr 25), (5, zi (n : Int))], r.toList ++ [zr 25], m1) κ)) :
    T (D + 3) 11 (107, lo, [zi (n : Int)], m) κ :=
  zkeep hT hlo (hT.1 [(35, [0, 3, 4, 5])] 6 (D + 3) 11 _ κ (hT.1 [(35, [0, 3, 4, 5])] 6 (D + 3) 11 (117, [(0, zr 25), (5, zi (n : Int))], [zi (m 25 4), zi (n : Int), zr 25, zr 25], m) _ (o1)))
theorem zb11_107 (hT : zRules T) {D : Nat} {κ : Option zA → zM → Prop} {m : zM} {n : Nat} {lo : zL} (hlo : z_keep [0] lo = [(0, zr 25)])  (hB : zB m) (h_n : n ≤ 20) 
    (k1 : T (D + 2) 13 (0, [(0, zr 25), (1, zi (n : Int)), (2, zi (m 25 4))], [], m) (fun r m1 => T (D + 3) 11 (120, [(0, zr 25), (5, zi (n : Int))], r.toList ++ [zr 25], m1) κ)) :
    T (D + 3) 11 (107, lo, [zi (n : Int)], m) κ := by
  exact zb11_107r hT hlo
    k1
theorem zb11_120r (hT : zRules T) {D : Nat} {κ : Option zA → zM → Prop} {m : zM} {n : Nat} {b : Nat} {lo : zL} (hlo : z_keep [5] lo = [(5, zi (n : Int))]) 
    (o1 : κ (some (zi (wr (n : Int)))) (zu m 25 3 (b : Int))) :
    T (D + 3) 11 (120, lo, [zi (b : Int), zr 25], m) κ :=
  zkeep hT hlo (hT.1 [(35, [0, 3, 4, 5])] 6 (D + 3) 11 _ κ (And.intro trivial (o1)))
theorem zb11_120 (hT : zRules T) {D : Nat} {κ : Option zA → zM → Prop} {m : zM} {n : Nat} {b : Nat} {lo : zL} (hlo : z_keep [5] lo = [(5, zi (n : Int))])  (hB : zB m) (h_n : n ≤ 20) (h_b : b ≤ 1048576) 
    (k1 : zB (zu m 25 3 (b : Int)) → κ (some (zi (n : Int))) (zu m 25 3 (b : Int))) :
    T (D + 3) 11 (120, lo, [zi (b : Int), zr 25], m) κ := by
  have he0 : wr (n : Int) = (n : Int) := wr_id (by omega) (by omega)
  have key := @zb11_120r T hT D κ m n b lo hlo
  simp only [he0, Int.toNat_natCast] at key
  exact key
    (k1  (zB_u hB trivial))
theorem zb12_0r (hT : zRules T) {D : Nat} {κ : Option zA → zM → Prop} {m : zM} {e : Nat} 
    (o1 : T (D + 1) 12 (2, [(0, zr 25), (1, zi (e : Int)), (2, zi 0)], [], m) κ) :
    T (D + 1) 12 (0, [(0, zr 25), (1, zi (e : Int))], [], m) κ :=
  hT.1 [(2, [0, 1, 2]), (30, [0, 1, 2]), (47, [0, 1, 2, 3, 4])] 6 (D + 1) 12 _ κ (o1)
theorem zb12_0 (hT : zRules T) {D : Nat} {κ : Option zA → zM → Prop} {m : zM} {e : Nat}  (hB : zB m) (h_e : e ≤ 1106) 
    (k1 : T (D + 1) 12 (2, [(0, zr 25), (1, zi (e : Int)), (2, zi 0)], [], m) κ) :
    T (D + 1) 12 (0, [(0, zr 25), (1, zi (e : Int))], [], m) κ := by
  exact zb12_0r hT
    k1
theorem zb12_2r (hT : zRules T) {D : Nat} {κ : Option zA → zM → Prop} {m : zM} {e : Nat} {i : Nat} {lo : zL} (hlo : z_keep [0, 1, 2] lo = [(0, zr 25), (1, zi (e : Int)), (2, zi (i : Int))]) 
    (o1 : wr (e : Int) < wr (i : Int) → T (D + 1) 12 (30, [(0, zr 25), (1, zi (e : Int)), (2, zi 0)], [], m) κ)
    (o2 : ¬ wr (e : Int) < wr (i : Int) → ¬ wr (i : Int) = 0 → (0 ≤ wr (i : Int) ∧ wr (i : Int) < 23247))
    (o3 : ¬ wr (e : Int) < wr (i : Int) → ¬ wr (i : Int) = 0 → T (D + 1) 12 (2, [(0, zr 25), (1, zi (e : Int)), (2, zi ((i : Int) + 1))], [], (zu m 27 ((wr (i : Int)).toNat) 0)) κ)
    (o4 : ¬ wr (e : Int) < wr (i : Int) → wr (i : Int) = 0 → (0 ≤ wr (i : Int) ∧ wr (i : Int) < 23247))
    (o5 : ¬ wr (e : Int) < wr (i : Int) → wr (i : Int) = 0 → T (D + 1) 12 (2, [(0, zr 25), (1, zi (e : Int)), (2, zi ((i : Int) + 1))], [], (zu m 27 ((wr (i : Int)).toNat) 1)) κ) :
    T (D + 1) 12 (2, lo, [], m) κ :=
  zkeep hT hlo (hT.1 [(2, [0, 1, 2]), (30, [0, 1, 2]), (47, [0, 1, 2, 3, 4])] 6 (D + 1) 12 _ κ (And.intro (fun a1 => (o1 a1)) (fun a2 => (hT.1 [(2, [0, 1, 2]), (30, [0, 1, 2]), (47, [0, 1, 2, 3, 4])] 6 (D + 1) 12 (12, [(0, zr 25), (1, zi (e : Int)), (2, zi (i : Int))], [zi (i : Int), zr 27], m) _ (And.intro (fun a3 => (And.intro (And.intro (o2 a2 a3) trivial) (o3 a2 a3))) (fun a4 => (And.intro (And.intro (o4 a2 (Classical.byContradiction a4)) trivial) (hT.1 [(2, [0, 1, 2]), (30, [0, 1, 2]), (47, [0, 1, 2, 3, 4])] 6 (D + 1) 12 (25, [(0, zr 25), (1, zi (e : Int)), (2, zi ((i : Int) + 1))], [], (zu m 27 ((wr (i : Int)).toNat) 1)) _ (o5 a2 (Classical.byContradiction a4))))))))))
theorem zb12_2 (hT : zRules T) {D : Nat} {κ : Option zA → zM → Prop} {m : zM} {e : Nat} {i : Nat} {lo : zL} (hlo : z_keep [0, 1, 2] lo = [(0, zr 25), (1, zi (e : Int)), (2, zi (i : Int))])  (hB : zB m) (h_e : e ≤ 1106) (h_i : i ≤ 1107) 
    (k1 : (e : Int) < (i : Int) → T (D + 1) 12 (30, [(0, zr 25), (1, zi (e : Int)), (2, zi 0)], [], m) κ)
    (k2 : ¬ (e : Int) < (i : Int) → ¬ (i : Int) = 0 → zB (zu m 27 i 0) → T (D + 1) 12 (2, [(0, zr 25), (1, zi (e : Int)), (2, zi ((i : Int) + 1))], [], (zu m 27 i 0)) κ)
    (k3 : ¬ (e : Int) < (i : Int) → (i : Int) = 0 → zB (zu m 27 i 1) → T (D + 1) 12 (2, [(0, zr 25), (1, zi (e : Int)), (2, zi ((i : Int) + 1))], [], (zu m 27 i 1)) κ) :
    T (D + 1) 12 (2, lo, [], m) κ := by
  have he0 : wr (e : Int) = (e : Int) := wr_id (by omega) (by omega)
  have he1 : wr (i : Int) = (i : Int) := wr_id (by omega) (by omega)
  have he2 : (i : Int).toNat = i := by omega
  have key := @zb12_2r T hT D κ m e i lo hlo
  simp only [he0, he1, he2, Int.toNat_natCast] at key
  exact key
    k1
    (fun x0 x1 => by refine ⟨?_, ?_⟩ <;> omega)
    (fun x0 x1 => k2 x0 x1 (zB_u hB trivial))
    (fun x0 x1 => by refine ⟨?_, ?_⟩ <;> omega)
    (fun x0 x1 => k3 x0 x1 (zB_u hB trivial))
theorem zb12_30r (hT : zRules T) {D : Nat} {κ : Option zA → zM → Prop} {m : zM} {e : Nat} {i : Nat} {lo : zL} (hlo : z_keep [0, 1, 2] lo = [(0, zr 25), (1, zi (e : Int)), (2, zi (i : Int))]) 
    (o1 : ¬ wr (i : Int) < wr (m 25 2) → κ (none) m)
    (o2 : wr (i : Int) < wr (m 25 2) → T (D + 1) 12 (47, [(0, zr 25), (1, zi (e : Int)), (2, zi (i : Int)), (3, zi ((i : Int) * 1107)), (4, zi 0)], [], m) κ) :
    T (D + 1) 12 (30, lo, [], m) κ :=
  zkeep hT hlo (hT.1 [(2, [0, 1, 2]), (30, [0, 1, 2]), (47, [0, 1, 2, 3, 4])] 6 (D + 1) 12 _ κ (And.intro (fun a1 => (o1 a1)) (fun a2 => (hT.1 [(2, [0, 1, 2]), (30, [0, 1, 2]), (47, [0, 1, 2, 3, 4])] 6 (D + 1) 12 (42, [(0, zr 25), (1, zi (e : Int)), (2, zi (i : Int))], [zi 1107, zi (i : Int)], m) _ (o2 (Classical.byContradiction a2))))))
theorem zb12_30 (hT : zRules T) {D : Nat} {κ : Option zA → zM → Prop} {m : zM} {e : Nat} {i : Nat} {lo : zL} (hlo : z_keep [0, 1, 2] lo = [(0, zr 25), (1, zi (e : Int)), (2, zi (i : Int))])  (hB : zB m) (h_e : e ≤ 1106) (h_i : i ≤ 20) 
    (k1 : ¬ (i : Int) < (m 25 2) → κ (none) m)
    (k2 : (i : Int) < (m 25 2) → T (D + 1) 12 (47, [(0, zr 25), (1, zi (e : Int)), (2, zi (i : Int)), (3, zi ((i : Int) * 1107)), (4, zi 0)], [], m) κ) :
    T (D + 1) 12 (30, lo, [], m) κ := by
  have hb2 : 0 ≤ (m 25 2) ∧ (m 25 2) ≤ 20 := hB 25 2
  have he0 : wr (i : Int) = (i : Int) := wr_id (by omega) (by omega)
  have he1 : wr (m 25 2) = (m 25 2) := wr_id (by omega) (by omega)
  have key := @zb12_30r T hT D κ m e i lo hlo
  simp only [he0, he1, Int.toNat_natCast] at key
  exact key
    k1
    k2
theorem zb12_47r (hT : zRules T) {D : Nat} {κ : Option zA → zM → Prop} {m : zM} {e : Nat} {i : Nat} {f : Nat} {s : Nat} {lo : zL} (hlo : z_keep [0, 1, 2, 3, 4] lo = [(0, zr 25), (1, zi (e : Int)), (2, zi (i : Int)), (3, zi (f : Int)), (4, zi (s : Int))]) 
    (o1 : wr (e : Int) < wr (s : Int) → T (D + 1) 12 (30, [(0, zr 25), (1, zi (e : Int)), (2, zi ((i : Int) + 1))], [], m) κ)
    (o2 : ¬ wr (e : Int) < wr (s : Int) → (0 ≤ wr ((f : Int) + (s : Int)) ∧ wr ((f : Int) + (s : Int)) < 23247))
    (o3 : ¬ wr (e : Int) < wr (s : Int) → (0 ≤ wr (i : Int) ∧ wr (i : Int) < 20))
    (o4 : ¬ wr (e : Int) < wr (s : Int) → wr (s : Int) < wr (m 26 ((wr (i : Int)).toNat)) → (0 ≤ wr (((f : Int) + 1107) + (s : Int)) ∧ wr (((f : Int) + 1107) + (s : Int)) < 23247))
    (o5 : ¬ wr (e : Int) < wr (s : Int) → wr (s : Int) < wr (m 26 ((wr (i : Int)).toNat)) → T (D + 1) 12 (47, [(0, zr 25), (1, zi (e : Int)), (2, zi (i : Int)), (3, zi (f : Int)), (4, zi ((s : Int) + 1))], [], (zu m 27 ((wr (((f : Int) + 1107) + (s : Int))).toNat) (m 27 ((wr ((f : Int) + (s : Int))).toNat)))) κ)
    (o6 : ¬ wr (e : Int) < wr (s : Int) → ¬ wr (s : Int) < wr (m 26 ((wr (i : Int)).toNat)) → (0 ≤ wr (i : Int) ∧ wr (i : Int) < 20))
    (o7 : ¬ wr (e : Int) < wr (s : Int) → ¬ wr (s : Int) < wr (m 26 ((wr (i : Int)).toNat)) → (0 ≤ wr (((f : Int) + (s : Int)) - (m 26 ((wr (i : Int)).toNat))) ∧ wr (((f : Int) + (s : Int)) - (m 26 ((wr (i : Int)).toNat))) < 23247))
    (o8 : ¬ wr (e : Int) < wr (s : Int) → ¬ wr (s : Int) < wr (m 26 ((wr (i : Int)).toNat)) → (0 ≤ wr (((f : Int) + 1107) + (s : Int)) ∧ wr (((f : Int) + 1107) + (s : Int)) < 23247))
    (o9 : ¬ wr (e : Int) < wr (s : Int) → ¬ wr (s : Int) < wr (m 26 ((wr (i : Int)).toNat)) → T (D + 1) 12 (47, [(0, zr 25), (1, zi (e : Int)), (2, zi (i : Int)), (3, zi (f : Int)), (4, zi ((s : Int) + 1))], [], (zu m 27 ((wr (((f : Int) + 1107) + (s : Int))).toNat) (z_or (m 27 ((wr ((f : Int) + (s : Int))).toNat)) (z_shl (m 27 ((wr (((f : Int) + (s : Int)) - (m 26 ((wr (i : Int)).toNat)))).toNat)) 1)))) κ) :
    T (D + 1) 12 (47, lo, [], m) κ :=
  zkeep hT hlo (hT.1 [(2, [0, 1, 2]), (30, [0, 1, 2]), (47, [0, 1, 2, 3, 4])] 6 (D + 1) 12 _ κ (And.intro (fun a1 => (o1 a1)) (fun a2 => (hT.1 [(2, [0, 1, 2]), (30, [0, 1, 2]), (47, [0, 1, 2, 3, 4])] 6 (D + 1) 12 (58, [(0, zr 25), (1, zi (e : Int)), (2, zi (i : Int)), (3, zi (f : Int)), (4, zi (s : Int))], [zi (f : Int), zr 27], m) _ (And.intro (o2 a2) (hT.1 [(2, [0, 1, 2]), (30, [0, 1, 2]), (47, [0, 1, 2, 3, 4])] 6 (D + 1) 12 (67, [(0, zr 25), (1, zi (e : Int)), (2, zi (i : Int)), (3, zi (f : Int)), (4, zi (s : Int)), (5, zi (m 27 ((wr ((f : Int) + (s : Int))).toNat)))], [zr 25, zi (s : Int)], m) _ (And.intro (o3 a2) (And.intro (fun a3 => (hT.1 [(2, [0, 1, 2]), (30, [0, 1, 2]), (47, [0, 1, 2, 3, 4])] 6 (D + 1) 12 (102, [(0, zr 25), (1, zi (e : Int)), (2, zi (i : Int)), (3, zi (f : Int)), (4, zi (s : Int)), (5, zi (m 27 ((wr ((f : Int) + (s : Int))).toNat)))], [zr 27], m) _ (hT.1 [(2, [0, 1, 2]), (30, [0, 1, 2]), (47, [0, 1, 2, 3, 4])] 6 (D + 1) 12 (112, [(0, zr 25), (1, zi (e : Int)), (2, zi (i : Int)), (3, zi (f : Int)), (4, zi (s : Int)), (5, zi (m 27 ((wr ((f : Int) + (s : Int))).toNat)))], [zi (m 27 ((wr ((f : Int) + (s : Int))).toNat)), zi (((f : Int) + 1107) + (s : Int)), zr 27], m) _ (And.intro (And.intro (o4 a2 a3) trivial) (o5 a2 a3))))) (fun a4 => (hT.1 [(2, [0, 1, 2]), (30, [0, 1, 2]), (47, [0, 1, 2, 3, 4])] 6 (D + 1) 12 (78, [(0, zr 25), (1, zi (e : Int)), (2, zi (i : Int)), (3, zi (f : Int)), (4, zi (s : Int)), (5, zi (m 27 ((wr ((f : Int) + (s : Int))).toNat)))], [zr 25, zi (m 27 ((wr ((f : Int) + (s : Int))).toNat))], m) _ (hT.1 [(2, [0, 1, 2]), (30, [0, 1, 2]), (47, [0, 1, 2, 3, 4])] 6 (D + 1) 12 (89, [(0, zr 25), (1, zi (e : Int)), (2, zi (i : Int)), (3, zi (f : Int)), (4, zi (s : Int)), (5, zi (m 27 ((wr ((f : Int) + (s : Int))).toNat)))], [zr 26, zi ((f : Int) + (s : Int)), zr 27, zi (m 27 ((wr ((f : Int) + (s : Int))).toNat))], m) _ (And.intro (o6 a2 a4) (And.intro (o7 a2 a4) (hT.1 [(2, [0, 1, 2]), (30, [0, 1, 2]), (47, [0, 1, 2, 3, 4])] 6 (D + 1) 12 (95, [(0, zr 25), (1, zi (e : Int)), (2, zi (i : Int)), (3, zi (f : Int)), (4, zi (s : Int)), (5, zi (m 27 ((wr ((f : Int) + (s : Int))).toNat)))], [zi (z_shl (m 27 ((wr (((f : Int) + (s : Int)) - (m 26 ((wr (i : Int)).toNat)))).toNat)) 1), zi (m 27 ((wr ((f : Int) + (s : Int))).toNat))], m) _ (hT.1 [(2, [0, 1, 2]), (30, [0, 1, 2]), (47, [0, 1, 2, 3, 4])] 6 (D + 1) 12 (106, [(0, zr 25), (1, zi (e : Int)), (2, zi (i : Int)), (3, zi (f : Int)), (4, zi (s : Int)), (5, zi (z_or (m 27 ((wr ((f : Int) + (s : Int))).toNat)) (z_shl (m 27 ((wr (((f : Int) + (s : Int)) - (m 26 ((wr (i : Int)).toNat)))).toNat)) 1)))], [zi 1107, zi (f : Int), zr 27], m) _ (And.intro (And.intro (o8 a2 a4) trivial) (hT.1 [(2, [0, 1, 2]), (30, [0, 1, 2]), (47, [0, 1, 2, 3, 4])] 6 (D + 1) 12 (116, [(0, zr 25), (1, zi (e : Int)), (2, zi (i : Int)), (3, zi (f : Int)), (4, zi ((s : Int) + 1)), (5, zi (z_or (m 27 ((wr ((f : Int) + (s : Int))).toNat)) (z_shl (m 27 ((wr (((f : Int) + (s : Int)) - (m 26 ((wr (i : Int)).toNat)))).toNat)) 1)))], [], (zu m 27 ((wr (((f : Int) + 1107) + (s : Int))).toNat) (z_or (m 27 ((wr ((f : Int) + (s : Int))).toNat)) (z_shl (m 27 ((wr (((f : Int) + (s : Int)) - (m 26 ((wr (i : Int)).toNat)))).toNat)) 1)))) _ (o9 a2 a4))))))))))))))))))
theorem zb12_47 (hT : zRules T) {D : Nat} {κ : Option zA → zM → Prop} {m : zM} {e : Nat} {i : Nat} {f : Nat} {s : Nat} {lo : zL} (hlo : z_keep [0, 1, 2, 3, 4] lo = [(0, zr 25), (1, zi (e : Int)), (2, zi (i : Int)), (3, zi (f : Int)), (4, zi (s : Int))])  (hB : zB m) (h_e : e ≤ 1106) (h_i : i ≤ 19) (h_f : f ≤ 21033) (h_s : s ≤ 1107) 
    (k1 : (e : Int) < (s : Int) → T (D + 1) 12 (30, [(0, zr 25), (1, zi (e : Int)), (2, zi ((i : Int) + 1))], [], m) κ)
    (k2 : ¬ (e : Int) < (s : Int) → (s : Int) < (m 26 i) → zB (zu m 27 (f + s + 1107) (m 27 (f + s))) → T (D + 1) 12 (47, [(0, zr 25), (1, zi (e : Int)), (2, zi (i : Int)), (3, zi (f : Int)), (4, zi ((s : Int) + 1))], [], (zu m 27 (f + s + 1107) (m 27 (f + s)))) κ)
    (k3 : ¬ (e : Int) < (s : Int) → ¬ (s : Int) < (m 26 i) → zB (zu m 27 (f + s + 1107) (z_or (m 27 (f + s)) (z_shl (m 27 ((((f : Int) + (s : Int)) - (m 26 i)).toNat)) 1))) → T (D + 1) 12 (47, [(0, zr 25), (1, zi (e : Int)), (2, zi (i : Int)), (3, zi (f : Int)), (4, zi ((s : Int) + 1))], [], (zu m 27 (f + s + 1107) (z_or (m 27 (f + s)) (z_shl (m 27 ((((f : Int) + (s : Int)) - (m 26 i)).toNat)) 1)))) κ) :
    T (D + 1) 12 (47, lo, [], m) κ := by
  have hb4 : 0 ≤ (m 26 i) ∧ (m 26 i) ≤ 108 := hB 26 i
  have hb5 : (-2147483648) ≤ (z_shl (m 27 ((((f : Int) + (s : Int)) - (m 26 i)).toNat)) 1) ∧ (z_shl (m 27 ((((f : Int) + (s : Int)) - (m 26 i)).toNat)) 1) ≤ 2147483647 := z_shlB (m 27 ((((f : Int) + (s : Int)) - (m 26 i)).toNat)) 1
  have hb6 : (-2147483648) ≤ (z_or (m 27 (f + s)) (z_shl (m 27 ((((f : Int) + (s : Int)) - (m 26 i)).toNat)) 1)) ∧ (z_or (m 27 (f + s)) (z_shl (m 27 ((((f : Int) + (s : Int)) - (m 26 i)).toNat)) 1)) ≤ 2147483647 := z_orB (m 27 (f + s)) (z_shl (m 27 ((((f : Int) + (s : Int)) - (m 26 i)).toNat)) 1)
  have he0 : wr (e : Int) = (e : Int) := wr_id (by omega) (by omega)
  have he1 : wr (s : Int) = (s : Int) := wr_id (by omega) (by omega)
  have he2 : wr ((f : Int) + (s : Int)) = ((f : Int) + (s : Int)) := wr_id (by omega) (by omega)
  have he3 : ((f : Int) + (s : Int)).toNat = f + s := by omega
  have he4 : wr (i : Int) = (i : Int) := wr_id (by omega) (by omega)
  have he5 : (i : Int).toNat = i := by omega
  have he6 : wr (m 26 i) = (m 26 i) := wr_id (by omega) (by omega)
  have he7 : wr (((f : Int) + 1107) + (s : Int)) = (((f : Int) + 1107) + (s : Int)) := wr_id (by omega) (by omega)
  have he8 : (((f : Int) + 1107) + (s : Int)).toNat = f + s + 1107 := by omega
  have he9 : wr (((f : Int) + (s : Int)) - (m 26 i)) = (((f : Int) + (s : Int)) - (m 26 i)) := wr_id (by omega) (by omega)
  have key := @zb12_47r T hT D κ m e i f s lo hlo
  simp only [he0, he1, he2, he3, he4, he5, he6, he7, he8, he9, Int.toNat_natCast] at key
  exact key
    k1
    (fun x0 => by refine ⟨?_, ?_⟩ <;> omega)
    (fun x0 => by refine ⟨?_, ?_⟩ <;> omega)
    (fun x0 x1 => by refine ⟨?_, ?_⟩ <;> omega)
    (fun x0 x1 => k2 x0 x1 (zB_u hB trivial))
    (fun x0 x1 => by refine ⟨?_, ?_⟩ <;> omega)
    (fun x0 x1 => by refine ⟨?_, ?_⟩ <;> omega)
    (fun x0 x1 => by refine ⟨?_, ?_⟩ <;> omega)
    (fun x0 x1 => k3 x0 x1 (zB_u hB trivial))
theorem zb13_0r (hT : zRules T) {D : Nat} {κ : Option zA → zM → Prop} {m : zM} {w : Nat} {l : Nat} 
    (o1 : T (D + 1) 13 (16, [(0, zr 25), (3, zi 0), (4, zi (w : Int)), (5, zi (l : Int)), (6, zi ((m 25 2) - 1))], [], m) κ) :
    T (D + 1) 13 (0, [(0, zr 25), (1, zi (w : Int)), (2, zi (l : Int))], [], m) κ :=
  hT.1 [(16, [0, 3, 4, 5, 6])] 6 (D + 1) 13 _ κ (hT.1 [(16, [0, 3, 4, 5, 6])] 6 (D + 1) 13 (8, [(0, zr 25), (1, zi (w : Int)), (2, zi (l : Int)), (3, zi 0), (4, zi (w : Int)), (5, zi (l : Int))], [], m) _ (o1))
theorem zb13_0 (hT : zRules T) {D : Nat} {κ : Option zA → zM → Prop} {m : zM} {w : Nat} {l : Nat}  (hB : zB m) (h_w : w ≤ 20) (h_l : l ≤ 1106) 
    (k1 : T (D + 1) 13 (16, [(0, zr 25), (3, zi 0), (4, zi (w : Int)), (5, zi (l : Int)), (6, zi ((m 25 2) - 1))], [], m) κ) :
    T (D + 1) 13 (0, [(0, zr 25), (1, zi (w : Int)), (2, zi (l : Int))], [], m) κ := by
  have hb2 : 0 ≤ (m 25 2) ∧ (m 25 2) ≤ 20 := hB 25 2
  exact zb13_0r hT
    k1
theorem zb13_16r (hT : zRules T) {D : Nat} {κ : Option zA → zM → Prop} {m : zM} {b : Nat} {w : Nat} {l : Nat} {i : Int} {lo : zL} (hlo : z_keep [0, 3, 4, 5, 6] lo = [(0, zr 25), (3, zi (b : Int)), (4, zi (w : Int)), (5, zi (l : Int)), (6, zi i)]) 
    (o1 : wr i < 0 → κ (some (zi (wr (b : Int)))) m)
    (o2 : ¬ wr i < 0 → (0 ≤ wr ((i * 1107) + (l : Int)) ∧ wr ((i * 1107) + (l : Int)) < 23247))
    (o3 : ¬ wr i < 0 → ¬ wr (z_and (z_shr (m 27 ((wr ((i * 1107) + (l : Int))).toNat)) (w : Int)) 1) = 0 → T (D + 1) 13 (16, [(0, zr 25), (3, zi (b : Int)), (4, zi (w : Int)), (5, zi (l : Int)), (6, zi (i + (-1)))], [], m) κ)
    (o4 : ¬ wr i < 0 → wr (z_and (z_shr (m 27 ((wr ((i * 1107) + (l : Int))).toNat)) (w : Int)) 1) = 0 → (0 ≤ wr i ∧ wr i < 20))
    (o5 : ¬ wr i < 0 → wr (z_and (z_shr (m 27 ((wr ((i * 1107) + (l : Int))).toNat)) (w : Int)) 1) = 0 → wr (l : Int) < wr (m 26 ((wr i).toNat)) → T (D + 1) 13 (16, [(0, zr 25), (3, zi (b : Int)), (4, zi (w : Int)), (5, zi (l : Int)), (6, zi (i + (-1)))], [], m) κ)
    (o6 : ¬ wr i < 0 → wr (z_and (z_shr (m 27 ((wr ((i * 1107) + (l : Int))).toNat)) (w : Int)) 1) = 0 → ¬ wr (l : Int) < wr (m 26 ((wr i).toNat)) → (0 ≤ wr i ∧ wr i < 20))
    (o7 : ¬ wr i < 0 → wr (z_and (z_shr (m 27 ((wr ((i * 1107) + (l : Int))).toNat)) (w : Int)) 1) = 0 → ¬ wr (l : Int) < wr (m 26 ((wr i).toNat)) → T (D + 1) 13 (16, [(0, zr 25), (3, zi (z_or (b : Int) (z_shl 1 i))), (4, zi ((w : Int) + (-1))), (5, zi ((l : Int) - (m 26 ((wr i).toNat)))), (6, zi (i + (-1)))], [], m) κ) :
    T (D + 1) 13 (16, lo, [], m) κ :=
  zkeep hT hlo (hT.1 [(16, [0, 3, 4, 5, 6])] 6 (D + 1) 13 _ κ (And.intro (fun a1 => (o1 a1)) (fun a2 => (hT.1 [(16, [0, 3, 4, 5, 6])] 6 (D + 1) 13 (30, [(0, zr 25), (3, zi (b : Int)), (4, zi (w : Int)), (5, zi (l : Int)), (6, zi i)], [zi 1107, zi i, zr 27], m) _ (And.intro (o2 a2) (hT.1 [(16, [0, 3, 4, 5, 6])] 6 (D + 1) 13 (38, [(0, zr 25), (3, zi (b : Int)), (4, zi (w : Int)), (5, zi (l : Int)), (6, zi i)], [zi (z_shr (m 27 ((wr ((i * 1107) + (l : Int))).toNat)) (w : Int))], m) _ (And.intro (fun a3 => (o3 a2 a3)) (fun a4 => (hT.1 [(16, [0, 3, 4, 5, 6])] 6 (D + 1) 13 (49, [(0, zr 25), (3, zi (b : Int)), (4, zi (w : Int)), (5, zi (l : Int)), (6, zi i)], [zr 26, zi (l : Int)], m) _ (And.intro (o4 a2 (Classical.byContradiction a4)) (And.intro (fun a5 => (o5 a2 (Classical.byContradiction a4) a5)) (fun a6 => (hT.1 [(16, [0, 3, 4, 5, 6])] 6 (D + 1) 13 (59, [(0, zr 25), (3, zi (b : Int)), (4, zi (w : Int)), (5, zi (l : Int)), (6, zi i)], [zi i, zi 1, zi (b : Int)], m) _ (hT.1 [(16, [0, 3, 4, 5, 6])] 6 (D + 1) 13 (68, [(0, zr 25), (3, zi (z_or (b : Int) (z_shl 1 i))), (4, zi ((w : Int) + (-1))), (5, zi (l : Int)), (6, zi i)], [zr 25, zi (l : Int)], m) _ (And.intro (o6 a2 (Classical.byContradiction a4) a6) (hT.1 [(16, [0, 3, 4, 5, 6])] 6 (D + 1) 13 (80, [(0, zr 25), (3, zi (z_or (b : Int) (z_shl 1 i))), (4, zi ((w : Int) + (-1))), (5, zi ((l : Int) - (m 26 ((wr i).toNat)))), (6, zi (i + (-1)))], [], m) _ (o7 a2 (Classical.byContradiction a4) a6)))))))))))))))))
theorem zb13_16 (hT : zRules T) {D : Nat} {κ : Option zA → zM → Prop} {m : zM} {b : Nat} {w : Nat} {l : Nat} {i : Int} {lo : zL} (hlo : z_keep [0, 3, 4, 5, 6] lo = [(0, zr 25), (3, zi (b : Int)), (4, zi (w : Int)), (5, zi (l : Int)), (6, zi i)])  (hB : zB m) (h_b : b ≤ 1048576) (h_w : w ≤ 20) (h_l : l ≤ 1106) (h_i : (-1) ≤ i ∧ i ≤ 19) 
    (k1 : i < 0 → κ (some (zi (b : Int))) m)
    (k2 : ¬ i < 0 → ¬ (z_and (z_shr (m 27 (((i * 1107) + (l : Int)).toNat)) (w : Int)) 1) = 0 → T (D + 1) 13 (16, [(0, zr 25), (3, zi (b : Int)), (4, zi (w : Int)), (5, zi (l : Int)), (6, zi (i + (-1)))], [], m) κ)
    (k3 : ¬ i < 0 → (z_and (z_shr (m 27 (((i * 1107) + (l : Int)).toNat)) (w : Int)) 1) = 0 → (l : Int) < (m 26 (i.toNat)) → T (D + 1) 13 (16, [(0, zr 25), (3, zi (b : Int)), (4, zi (w : Int)), (5, zi (l : Int)), (6, zi (i + (-1)))], [], m) κ)
    (k4 : ¬ i < 0 → (z_and (z_shr (m 27 (((i * 1107) + (l : Int)).toNat)) (w : Int)) 1) = 0 → ¬ (l : Int) < (m 26 (i.toNat)) → T (D + 1) 13 (16, [(0, zr 25), (3, zi (z_or (b : Int) (z_shl 1 i))), (4, zi ((w : Int) + (-1))), (5, zi ((l : Int) - (m 26 (i.toNat)))), (6, zi (i + (-1)))], [], m) κ) :
    T (D + 1) 13 (16, lo, [], m) κ := by
  have hb4 : (-2147483648) ≤ (z_shr (m 27 (((i * 1107) + (l : Int)).toNat)) (w : Int)) ∧ (z_shr (m 27 (((i * 1107) + (l : Int)).toNat)) (w : Int)) ≤ 2147483647 := z_shrB (m 27 (((i * 1107) + (l : Int)).toNat)) (w : Int)
  have hb5 : 0 ≤ (z_and (z_shr (m 27 (((i * 1107) + (l : Int)).toNat)) (w : Int)) 1) ∧ (z_and (z_shr (m 27 (((i * 1107) + (l : Int)).toNat)) (w : Int)) 1) ≤ 1 := z_andC (z_shr (m 27 (((i * 1107) + (l : Int)).toNat)) (w : Int)) 1 (by decide)
  have hb6 : 0 ≤ (m 26 (i.toNat)) ∧ (m 26 (i.toNat)) ≤ 108 := hB 26 (i.toNat)
  have hb7 : (-2147483648) ≤ (z_shl 1 i) ∧ (z_shl 1 i) ≤ 2147483647 := z_shlB 1 i
  have hb8 : (-2147483648) ≤ (z_or (b : Int) (z_shl 1 i)) ∧ (z_or (b : Int) (z_shl 1 i)) ≤ 2147483647 := z_orB (b : Int) (z_shl 1 i)
  have he0 : wr i = i := wr_id (by omega) (by omega)
  have he1 : wr (b : Int) = (b : Int) := wr_id (by omega) (by omega)
  have he2 : wr ((i * 1107) + (l : Int)) = ((i * 1107) + (l : Int)) := wr_id (by omega) (by omega)
  have he3 : wr (z_and (z_shr (m 27 (((i * 1107) + (l : Int)).toNat)) (w : Int)) 1) = (z_and (z_shr (m 27 (((i * 1107) + (l : Int)).toNat)) (w : Int)) 1) := wr_id (by omega) (by omega)
  have he4 : wr (l : Int) = (l : Int) := wr_id (by omega) (by omega)
  have he5 : wr (m 26 (i.toNat)) = (m 26 (i.toNat)) := wr_id (by omega) (by omega)
  have key := @zb13_16r T hT D κ m b w l i lo hlo
  simp only [he0, he1, he2, he3, he4, he5, Int.toNat_natCast] at key
  exact key
    k1
    (fun x0 => by refine ⟨?_, ?_⟩ <;> omega)
    k2
    (fun x0 x1 => by refine ⟨?_, ?_⟩ <;> omega)
    k3
    (fun x0 x1 x2 => by refine ⟨?_, ?_⟩ <;> omega)
    k4
theorem zb245_0r (hT : zRules T) {D : Nat} {κ : Option zA → zM → Prop} {m : zM} {v : Nat} 
    (o1 : T (D + 1) 245 (10, [(0, zr 74), (1, zi (v : Int)), (2, zi (m 75 56)), (3, zi 0)], [], m) κ) :
    T (D + 1) 245 (0, [(0, zr 74), (1, zi (v : Int))], [], m) κ :=
  hT.1 [(10, [0, 1, 2, 3]), (18, [0, 1, 2, 3, 4]), (93, [0, 1, 2, 3, 4])] 6 (D + 1) 245 _ κ (And.intro (z_ixL rfl) (hT.1 [(10, [0, 1, 2, 3]), (18, [0, 1, 2, 3, 4]), (93, [0, 1, 2, 3, 4])] 6 (D + 1) 245 (9, [(0, zr 74), (1, zi (v : Int)), (2, zi (m 75 56))], [zi 0], m) _ (o1)))
theorem zb245_0 (hT : zRules T) {D : Nat} {κ : Option zA → zM → Prop} {m : zM} {v : Nat}  (hB : zB m) (h_v : v ≤ 999) 
    (k1 : T (D + 1) 245 (10, [(0, zr 74), (1, zi (v : Int)), (2, zi (m 75 56)), (3, zi 0)], [], m) κ) :
    T (D + 1) 245 (0, [(0, zr 74), (1, zi (v : Int))], [], m) κ := by
  have hb1 : 0 ≤ (m 75 56) ∧ (m 75 56) ≤ 20 := hB 75 56
  exact zb245_0r hT
    k1
theorem zb245_10r (hT : zRules T) {D : Nat} {κ : Option zA → zM → Prop} {m : zM} {v : Nat} {n : Nat} {i : Nat} {lo : zL} (hlo : z_keep [0, 1, 2, 3] lo = [(0, zr 74), (1, zi (v : Int)), (2, zi (n : Int)), (3, zi (i : Int))]) 
    (o1 : ¬ wr (i : Int) < wr (n : Int) → T (D + 1) 245 (93, [(0, zr 74), (1, zi (v : Int)), (2, zi (n : Int)), (3, zi 0), (4, zi 0)], [], m) κ)
    (o2 : wr (i : Int) < wr (n : Int) → T (D + 1) 245 (18, [(0, zr 74), (1, zi (v : Int)), (2, zi (n : Int)), (3, zi (i : Int)), (4, zi (i : Int))], [], m) κ) :
    T (D + 1) 245 (10, lo, [], m) κ :=
  zkeep hT hlo (hT.1 [(10, [0, 1, 2, 3]), (18, [0, 1, 2, 3, 4]), (93, [0, 1, 2, 3, 4])] 6 (D + 1) 245 _ κ (And.intro (fun a1 => (hT.1 [(10, [0, 1, 2, 3]), (18, [0, 1, 2, 3, 4]), (93, [0, 1, 2, 3, 4])] 6 (D + 1) 245 (91, [(0, zr 74), (1, zi (v : Int)), (2, zi (n : Int)), (3, zi 0)], [zi 0], m) _ (o1 a1))) (fun a2 => (o2 (Classical.byContradiction a2)))))
theorem zb245_10 (hT : zRules T) {D : Nat} {κ : Option zA → zM → Prop} {m : zM} {v : Nat} {n : Nat} {i : Nat} {lo : zL} (hlo : z_keep [0, 1, 2, 3] lo = [(0, zr 74), (1, zi (v : Int)), (2, zi (n : Int)), (3, zi (i : Int))])  (hB : zB m) (h_v : v ≤ 999) (h_n : n ≤ 20) (h_i : i ≤ 20) 
    (k1 : ¬ (i : Int) < (n : Int) → T (D + 1) 245 (93, [(0, zr 74), (1, zi (v : Int)), (2, zi (n : Int)), (3, zi 0), (4, zi 0)], [], m) κ)
    (k2 : (i : Int) < (n : Int) → T (D + 1) 245 (18, [(0, zr 74), (1, zi (v : Int)), (2, zi (n : Int)), (3, zi (i : Int)), (4, zi (i : Int))], [], m) κ) :
    T (D + 1) 245 (10, lo, [], m) κ := by
  have he0 : wr (i : Int) = (i : Int) := wr_id (by omega) (by omega)
  have he1 : wr (n : Int) = (n : Int) := wr_id (by omega) (by omega)
  have key := @zb245_10r T hT D κ m v n i lo hlo
  simp only [he0, he1, Int.toNat_natCast] at key
  exact key
    k1
    k2
theorem zb245_18r (hT : zRules T) {D : Nat} {κ : Option zA → zM → Prop} {m : zM} {v : Nat} {n : Nat} {i : Nat} {k : Nat} {lo : zL} (hlo : z_keep [0, 1, 2, 3, 4] lo = [(0, zr 74), (1, zi (v : Int)), (2, zi (n : Int)), (3, zi (i : Int)), (4, zi (k : Int))]) 
    (o1 : ¬ 0 < wr (k : Int) → (0 ≤ wr (36 + (i : Int)) ∧ wr (36 + (i : Int)) < 59))
    (o2 : ¬ 0 < wr (k : Int) → (0 ≤ wr (k : Int) ∧ wr (k : Int) < 20))
    (o3 : ¬ 0 < wr (k : Int) → T (D + 1) 245 (10, [(0, zr 74), (1, zi (v : Int)), (2, zi (n : Int)), (3, zi ((i : Int) + 1))], [], (zu m 90 ((wr (k : Int)).toNat) (m 75 ((wr (36 + (i : Int))).toNat)))) κ)
    (o4 : 0 < wr (k : Int) → (0 ≤ wr ((k : Int) - 1) ∧ wr ((k : Int) - 1) < 20))
    (o5 : 0 < wr (k : Int) → (0 ≤ wr (36 + (i : Int)) ∧ wr (36 + (i : Int)) < 59))
    (o6 : 0 < wr (k : Int) → ¬ wr (m 90 ((wr ((k : Int) - 1)).toNat)) < wr (m 75 ((wr (36 + (i : Int))).toNat)) → (0 ≤ wr (36 + (i : Int)) ∧ wr (36 + (i : Int)) < 59))
    (o7 : 0 < wr (k : Int) → ¬ wr (m 90 ((wr ((k : Int) - 1)).toNat)) < wr (m 75 ((wr (36 + (i : Int))).toNat)) → (0 ≤ wr (k : Int) ∧ wr (k : Int) < 20))
    (o8 : 0 < wr (k : Int) → ¬ wr (m 90 ((wr ((k : Int) - 1)).toNat)) < wr (m 75 ((wr (36 + (i : Int))).toNat)) → T (D + 1) 245 (10, [(0, zr 74), (1, zi (v : Int)), (2, zi (n : Int)), (3, zi ((i : Int) + 1))], [], (zu m 90 ((wr (k : Int)).toNat) (m 75 ((wr (36 + (i : Int))).toNat)))) κ)
    (o9 : 0 < wr (k : Int) → wr (m 90 ((wr ((k : Int) - 1)).toNat)) < wr (m 75 ((wr (36 + (i : Int))).toNat)) → (0 ≤ wr ((k : Int) - 1) ∧ wr ((k : Int) - 1) < 20))
    (o10 : 0 < wr (k : Int) → wr (m 90 ((wr ((k : Int) - 1)).toNat)) < wr (m 75 ((wr (36 + (i : Int))).toNat)) → (0 ≤ wr (k : Int) ∧ wr (k : Int) < 20))
    (o11 : 0 < wr (k : Int) → wr (m 90 ((wr ((k : Int) - 1)).toNat)) < wr (m 75 ((wr (36 + (i : Int))).toNat)) → T (D + 1) 245 (18, [(0, zr 74), (1, zi (v : Int)), (2, zi (n : Int)), (3, zi (i : Int)), (4, zi ((k : Int) + (-1)))], [], (zu m 90 ((wr (k : Int)).toNat) (m 90 ((wr ((k : Int) - 1)).toNat)))) κ) :
    T (D + 1) 245 (18, lo, [], m) κ :=
  zkeep hT hlo (hT.1 [(10, [0, 1, 2, 3]), (18, [0, 1, 2, 3, 4]), (93, [0, 1, 2, 3, 4])] 6 (D + 1) 245 _ κ (And.intro (fun a1 => (hT.1 [(10, [0, 1, 2, 3]), (18, [0, 1, 2, 3, 4]), (93, [0, 1, 2, 3, 4])] 6 (D + 1) 245 (73, [(0, zr 74), (1, zi (v : Int)), (2, zi (n : Int)), (3, zi (i : Int)), (4, zi (k : Int))], [zr 74, zi (k : Int), zr 90], m) _ (And.intro (o1 a1) (And.intro (And.intro (o2 a1) trivial) (hT.1 [(10, [0, 1, 2, 3]), (18, [0, 1, 2, 3, 4]), (93, [0, 1, 2, 3, 4])] 6 (D + 1) 245 (82, [(0, zr 74), (1, zi (v : Int)), (2, zi (n : Int)), (3, zi (i : Int)), (4, zi (k : Int))], [], (zu m 90 ((wr (k : Int)).toNat) (m 75 ((wr (36 + (i : Int))).toNat)))) _ (o3 a1)))))) (fun a2 => (hT.1 [(10, [0, 1, 2, 3]), (18, [0, 1, 2, 3, 4]), (93, [0, 1, 2, 3, 4])] 6 (D + 1) 245 (30, [(0, zr 74), (1, zi (v : Int)), (2, zi (n : Int)), (3, zi (i : Int)), (4, zi (k : Int))], [zi 1, zi (k : Int), zr 90], m) _ (And.intro (o4 (Classical.byContradiction a2)) (hT.1 [(10, [0, 1, 2, 3]), (18, [0, 1, 2, 3, 4]), (93, [0, 1, 2, 3, 4])] 6 (D + 1) 245 (39, [(0, zr 74), (1, zi (v : Int)), (2, zi (n : Int)), (3, zi (i : Int)), (4, zi (k : Int))], [zi (i : Int), zi 36, zr 75, zi (m 90 ((wr ((k : Int) - 1)).toNat))], m) _ (And.intro (o5 (Classical.byContradiction a2)) (And.intro (fun a3 => (hT.1 [(10, [0, 1, 2, 3]), (18, [0, 1, 2, 3, 4]), (93, [0, 1, 2, 3, 4])] 6 (D + 1) 245 (72, [(0, zr 74), (1, zi (v : Int)), (2, zi (n : Int)), (3, zi (i : Int)), (4, zi (k : Int))], [zi (k : Int), zr 90], m) _ (And.intro (o6 (Classical.byContradiction a2) a3) (hT.1 [(10, [0, 1, 2, 3]), (18, [0, 1, 2, 3, 4]), (93, [0, 1, 2, 3, 4])] 6 (D + 1) 245 (81, [(0, zr 74), (1, zi (v : Int)), (2, zi (n : Int)), (3, zi (i : Int)), (4, zi (k : Int))], [zi (m 75 ((wr (36 + (i : Int))).toNat)), zi (k : Int), zr 90], m) _ (And.intro (And.intro (o7 (Classical.byContradiction a2) a3) trivial) (o8 (Classical.byContradiction a2) a3)))))) (fun a4 => (hT.1 [(10, [0, 1, 2, 3]), (18, [0, 1, 2, 3, 4]), (93, [0, 1, 2, 3, 4])] 6 (D + 1) 245 (50, [(0, zr 74), (1, zi (v : Int)), (2, zi (n : Int)), (3, zi (i : Int)), (4, zi (k : Int))], [zi (k : Int), zr 90], m) _ (And.intro (o9 (Classical.byContradiction a2) (Classical.byContradiction a4)) (hT.1 [(10, [0, 1, 2, 3]), (18, [0, 1, 2, 3, 4]), (93, [0, 1, 2, 3, 4])] 6 (D + 1) 245 (59, [(0, zr 74), (1, zi (v : Int)), (2, zi (n : Int)), (3, zi (i : Int)), (4, zi (k : Int))], [zi (m 90 ((wr ((k : Int) - 1)).toNat)), zi (k : Int), zr 90], m) _ (And.intro (And.intro (o10 (Classical.byContradiction a2) (Classical.byContradiction a4)) trivial) (o11 (Classical.byContradiction a2) (Classical.byContradiction a4)))))))))))))))
theorem zb245_18 (hT : zRules T) {D : Nat} {κ : Option zA → zM → Prop} {m : zM} {v : Nat} {n : Nat} {i : Nat} {k : Nat} {lo : zL} (hlo : z_keep [0, 1, 2, 3, 4] lo = [(0, zr 74), (1, zi (v : Int)), (2, zi (n : Int)), (3, zi (i : Int)), (4, zi (k : Int))])  (hB : zB m) (h_v : v ≤ 999) (h_n : n ≤ 20) (h_i : i ≤ 19) (h_k : k ≤ 19) 
    (k1 : ¬ 0 < (k : Int) → zB (zu m 90 k (m 75 (i + 36))) → T (D + 1) 245 (10, [(0, zr 74), (1, zi (v : Int)), (2, zi (n : Int)), (3, zi ((i : Int) + 1))], [], (zu m 90 k (m 75 (i + 36)))) κ)
    (k2 : 0 < (k : Int) → ¬ wr (m 90 (((k : Int) - 1).toNat)) < (m 75 (i + 36)) → zB (zu m 90 k (m 75 (i + 36))) → T (D + 1) 245 (10, [(0, zr 74), (1, zi (v : Int)), (2, zi (n : Int)), (3, zi ((i : Int) + 1))], [], (zu m 90 k (m 75 (i + 36)))) κ)
    (k3 : 0 < (k : Int) → wr (m 90 (((k : Int) - 1).toNat)) < (m 75 (i + 36)) → zB (zu m 90 k (m 90 (((k : Int) - 1).toNat))) → T (D + 1) 245 (18, [(0, zr 74), (1, zi (v : Int)), (2, zi (n : Int)), (3, zi (i : Int)), (4, zi ((k : Int) + (-1)))], [], (zu m 90 k (m 90 (((k : Int) - 1).toNat)))) κ) :
    T (D + 1) 245 (18, lo, [], m) κ := by
  have hb4 : 0 ≤ (m 75 (i + 36)) ∧ (m 75 (i + 36)) ≤ 108 := zSg hB 75 36 56 0 108 rfl (i + 36) (by omega) (by omega)
  have hb5 : (-2147483648) ≤ wr (m 90 (((k : Int) - 1).toNat)) ∧ wr (m 90 (((k : Int) - 1).toNat)) ≤ 2147483647 := wrB (m 90 (((k : Int) - 1).toNat))
  have he0 : wr (k : Int) = (k : Int) := wr_id (by omega) (by omega)
  have he1 : wr ((k : Int) - 1) = ((k : Int) - 1) := wr_id (by omega) (by omega)
  have he2 : wr (36 + (i : Int)) = (36 + (i : Int)) := wr_id (by omega) (by omega)
  have he3 : (36 + (i : Int)).toNat = i + 36 := by omega
  have he4 : wr (m 75 (i + 36)) = (m 75 (i + 36)) := wr_id (by omega) (by omega)
  have he5 : (k : Int).toNat = k := by omega
  have key := @zb245_18r T hT D κ m v n i k lo hlo
  simp only [he0, he1, he2, he3, he4, he5, Int.toNat_natCast] at key
  exact key
    (fun x0 => by refine ⟨?_, ?_⟩ <;> omega)
    (fun x0 => by refine ⟨?_, ?_⟩ <;> omega)
    (fun x0 => k1 x0 (zB_u hB trivial))
    (fun x0 => by refine ⟨?_, ?_⟩ <;> omega)
    (fun x0 => by refine ⟨?_, ?_⟩ <;> omega)
    (fun x0 x1 => by refine ⟨?_, ?_⟩ <;> omega)
    (fun x0 x1 => by refine ⟨?_, ?_⟩ <;> omega)
    (fun x0 x1 => k2 x0 x1 (zB_u hB trivial))
    (fun x0 x1 => by refine ⟨?_, ?_⟩ <;> omega)
    (fun x0 x1 => by refine ⟨?_, ?_⟩ <;> omega)
    (fun x0 x1 => k3 x0 x1 (zB_u hB trivial))
theorem zb245_93r (hT : zRules T) {D : Nat} {κ : Option zA → zM → Prop} {m : zM} {v : Nat} {n : Nat} {s : Nat} {k : Nat} {lo : zL} (hlo : z_keep [0, 1, 2, 3, 4] lo = [(0, zr 74), (1, zi (v : Int)), (2, zi (n : Int)), (3, zi (s : Int)), (4, zi (k : Int))]) 
    (o1 : ¬ wr (k : Int) < wr (n : Int) → κ (some (zi (-2))) m)
    (o2 : wr (k : Int) < wr (n : Int) → (0 ≤ wr (k : Int) ∧ wr (k : Int) < 20))
    (o3 : wr (k : Int) < wr (n : Int) → wr ((s : Int) + (m 90 ((wr (k : Int)).toNat))) < wr (v : Int) → T (D + 1) 245 (93, [(0, zr 74), (1, zi (v : Int)), (2, zi (n : Int)), (3, zi ((s : Int) + (m 90 ((wr (k : Int)).toNat)))), (4, zi ((k : Int) + 1))], [], m) κ)
    (o4 : wr (k : Int) < wr (n : Int) → ¬ wr ((s : Int) + (m 90 ((wr (k : Int)).toNat))) < wr (v : Int) → κ (some (zi (wr ((k : Int) + 1)))) m) :
    T (D + 1) 245 (93, lo, [], m) κ :=
  zkeep hT hlo (hT.1 [(10, [0, 1, 2, 3]), (18, [0, 1, 2, 3, 4]), (93, [0, 1, 2, 3, 4])] 6 (D + 1) 245 _ κ (And.intro (fun a1 => (o1 a1)) (fun a2 => (hT.1 [(10, [0, 1, 2, 3]), (18, [0, 1, 2, 3, 4]), (93, [0, 1, 2, 3, 4])] 6 (D + 1) 245 (104, [(0, zr 74), (1, zi (v : Int)), (2, zi (n : Int)), (3, zi (s : Int)), (4, zi (k : Int))], [zr 90, zi (s : Int)], m) _ (And.intro (o2 (Classical.byContradiction a2)) (hT.1 [(10, [0, 1, 2, 3]), (18, [0, 1, 2, 3, 4]), (93, [0, 1, 2, 3, 4])] 6 (D + 1) 245 (111, [(0, zr 74), (1, zi (v : Int)), (2, zi (n : Int)), (3, zi ((s : Int) + (m 90 ((wr (k : Int)).toNat)))), (4, zi (k : Int))], [zi (v : Int), zi ((s : Int) + (m 90 ((wr (k : Int)).toNat)))], m) _ (And.intro (fun a3 => (o3 (Classical.byContradiction a2) a3)) (fun a4 => (o4 (Classical.byContradiction a2) a4)))))))))
theorem zb245_93 (hT : zRules T) {D : Nat} {κ : Option zA → zM → Prop} {m : zM} {v : Nat} {n : Nat} {s : Nat} {k : Nat} {lo : zL} (hlo : z_keep [0, 1, 2, 3, 4] lo = [(0, zr 74), (1, zi (v : Int)), (2, zi (n : Int)), (3, zi (s : Int)), (4, zi (k : Int))])  (hB : zB m) (h_v : v ≤ 999) (h_n : n ≤ 20) (h_s : s ≤ 2160) (h_k : k ≤ 20) 
    (k1 : ¬ (k : Int) < (n : Int) → κ (some (zi (-2))) m)
    (k2 : (k : Int) < (n : Int) → wr ((s : Int) + (m 90 k)) < (v : Int) → T (D + 1) 245 (93, [(0, zr 74), (1, zi (v : Int)), (2, zi (n : Int)), (3, zi ((s : Int) + (m 90 k))), (4, zi ((k : Int) + 1))], [], m) κ)
    (k3 : (k : Int) < (n : Int) → ¬ wr ((s : Int) + (m 90 k)) < (v : Int) → κ (some (zi ((k : Int) + 1))) m) :
    T (D + 1) 245 (93, lo, [], m) κ := by
  have hb4 : (-2147483648) ≤ wr ((s : Int) + (m 90 k)) ∧ wr ((s : Int) + (m 90 k)) ≤ 2147483647 := wrB ((s : Int) + (m 90 k))
  have he0 : wr (k : Int) = (k : Int) := wr_id (by omega) (by omega)
  have he1 : wr (n : Int) = (n : Int) := wr_id (by omega) (by omega)
  have he2 : (k : Int).toNat = k := by omega
  have he3 : wr (v : Int) = (v : Int) := wr_id (by omega) (by omega)
  have he4 : wr ((k : Int) + 1) = ((k : Int) + 1) := wr_id (by omega) (by omega)
  have key := @zb245_93r T hT D κ m v n s k lo hlo
  simp only [he0, he1, he2, he3, he4, Int.toNat_natCast] at key
  exact key
    k1
    (fun x0 => by refine ⟨?_, ?_⟩ <;> omega)
    k2
    k3
theorem zb246_0r (hT : zRules T) {D : Nat} {κ : Option zA → zM → Prop} {m : zM} {v : Nat} 
    (o1 : T (D + 2) 245 (0, [(0, zr 74), (1, zi (v : Int))], [], m) (fun r m1 => T (D + 3) 246 (5, [(0, zr 74), (1, zi (v : Int))], r.toList ++ [], m1) κ)) :
    T (D + 3) 246 (0, [(0, zr 74), (1, zi (v : Int))], [], m) κ :=
  hT.1 [(23, [0, 1, 2, 3]), (42, [0, 1, 2, 3, 4, 5])] 6 (D + 3) 246 _ κ (o1)
theorem zb246_0 (hT : zRules T) {D : Nat} {κ : Option zA → zM → Prop} {m : zM} {v : Nat}  (hB : zB m) (h_v : v ≤ 999) 
    (k1 : T (D + 2) 245 (0, [(0, zr 74), (1, zi (v : Int))], [], m) (fun r m1 => T (D + 3) 246 (5, [(0, zr 74), (1, zi (v : Int))], r.toList ++ [], m1) κ)) :
    T (D + 3) 246 (0, [(0, zr 74), (1, zi (v : Int))], [], m) κ := by
  exact zb246_0r hT
    k1
theorem zb246_5r (hT : zRules T) {D : Nat} {κ : Option zA → zM → Prop} {m : zM} {v : Nat} {f : Int} {lo : zL} (hlo : z_keep [0, 1] lo = [(0, zr 74), (1, zi (v : Int))]) 
    (o1 : ¬ wr f < 0 → T (D + 3) 246 (23, [(0, zr 74), (1, zi (v : Int)), (2, zi f), (3, zi ((z_shl 1 f) - 1))], [], (zu m 74 38 0)) κ)
    (o2 : wr f < 0 → κ (some (zi (wr f))) m) :
    T (D + 3) 246 (5, lo, [zi f], m) κ :=
  zkeep hT hlo (hT.1 [(23, [0, 1, 2, 3]), (42, [0, 1, 2, 3, 4, 5])] 6 (D + 3) 246 _ κ (And.intro (fun a1 => (And.intro trivial (hT.1 [(23, [0, 1, 2, 3]), (42, [0, 1, 2, 3, 4, 5])] 6 (D + 3) 246 (17, [(0, zr 74), (1, zi (v : Int)), (2, zi f)], [], (zu m 74 38 0)) _ (o1 a1)))) (fun a2 => (o2 (Classical.byContradiction a2)))))
theorem zb246_5 (hT : zRules T) {D : Nat} {κ : Option zA → zM → Prop} {m : zM} {v : Nat} {f : Int} {lo : zL} (hlo : z_keep [0, 1] lo = [(0, zr 74), (1, zi (v : Int))])  (hB : zB m) (h_v : v ≤ 999) (h_f : (-2) ≤ f ∧ f ≤ 20) 
    (k1 : ¬ f < 0 → zB (zu m 74 38 0) → T (D + 3) 246 (23, [(0, zr 74), (1, zi (v : Int)), (2, zi f), (3, zi ((z_shl 1 f) - 1))], [], (zu m 74 38 0)) κ)
    (k2 : f < 0 → κ (some (zi f)) m) :
    T (D + 3) 246 (5, lo, [zi f], m) κ := by
  have hb2 : (-2147483648) ≤ (z_shl 1 f) ∧ (z_shl 1 f) ≤ 2147483647 := z_shlB 1 f
  have he0 : wr f = f := wr_id (by omega) (by omega)
  have key := @zb246_5r T hT D κ m v f lo hlo
  simp only [he0, Int.toNat_natCast] at key
  exact key
    (fun x0 => k1 x0 (zB_u hB trivial))
    k2
theorem zb246_23r (hT : zRules T) {D : Nat} {κ : Option zA → zM → Prop} {m : zM} {v : Nat} {f : Nat} {x : Nat} {lo : zL} (hlo : z_keep [0, 1, 2, 3] lo = [(0, zr 74), (1, zi (v : Int)), (2, zi (f : Int)), (3, zi (x : Int))]) 
    (o1 : ¬ wr (x : Int) < wr (z_shl 1 (m 75 56)) → κ (some (zi (wr (f : Int)))) m)
    (o2 : wr (x : Int) < wr (z_shl 1 (m 75 56)) → T (D + 3) 246 (42, [(0, zr 74), (1, zi (v : Int)), (2, zi (f : Int)), (3, zi (x : Int)), (4, zi 0), (5, zi (x : Int))], [], m) κ) :
    T (D + 3) 246 (23, lo, [], m) κ :=
  zkeep hT hlo (hT.1 [(23, [0, 1, 2, 3]), (42, [0, 1, 2, 3, 4, 5])] 6 (D + 3) 246 _ κ (And.intro (z_ixL rfl) (hT.1 [(23, [0, 1, 2, 3]), (42, [0, 1, 2, 3, 4, 5])] 6 (D + 3) 246 (32, [(0, zr 74), (1, zi (v : Int)), (2, zi (f : Int)), (3, zi (x : Int))], [zi (m 75 56), zi 1, zi (x : Int)], m) _ (And.intro (fun a1 => (o1 a1)) (fun a2 => (o2 (Classical.byContradiction a2)))))))
theorem zb246_23 (hT : zRules T) {D : Nat} {κ : Option zA → zM → Prop} {m : zM} {v : Nat} {f : Nat} {x : Nat} {lo : zL} (hlo : z_keep [0, 1, 2, 3] lo = [(0, zr 74), (1, zi (v : Int)), (2, zi (f : Int)), (3, zi (x : Int))])  (hB : zB m) (h_v : v ≤ 999) (h_f : f ≤ 20) (h_x : x ≤ 2097152) 
    (k1 : ¬ (x : Int) < (z_shl 1 (m 75 56)) → κ (some (zi (f : Int))) m)
    (k2 : (x : Int) < (z_shl 1 (m 75 56)) → T (D + 3) 246 (42, [(0, zr 74), (1, zi (v : Int)), (2, zi (f : Int)), (3, zi (x : Int)), (4, zi 0), (5, zi (x : Int))], [], m) κ) :
    T (D + 3) 246 (23, lo, [], m) κ := by
  have hb3 : 0 ≤ (m 75 56) ∧ (m 75 56) ≤ 20 := hB 75 56
  have hb4 : (-2147483648) ≤ (z_shl 1 (m 75 56)) ∧ (z_shl 1 (m 75 56)) ≤ 2147483647 := z_shlB 1 (m 75 56)
  have he0 : wr (x : Int) = (x : Int) := wr_id (by omega) (by omega)
  have he1 : wr (z_shl 1 (m 75 56)) = (z_shl 1 (m 75 56)) := wr_id (by omega) (by omega)
  have he2 : wr (f : Int) = (f : Int) := wr_id (by omega) (by omega)
  have key := @zb246_23r T hT D κ m v f x lo hlo
  simp only [he0, he1, he2, Int.toNat_natCast] at key
  exact key
    k1
    k2
theorem zb246_42r (hT : zRules T) {D : Nat} {κ : Option zA → zM → Prop} {m : zM} {v : Nat} {f : Nat} {x : Nat} {s : Nat} {y : Nat} {lo : zL} (hlo : z_keep [0, 1, 2, 3, 4, 5] lo = [(0, zr 74), (1, zi (v : Int)), (2, zi (f : Int)), (3, zi (x : Int)), (4, zi (s : Int)), (5, zi (y : Int))]) 
    (o1 : wr (y : Int) = 0 → wr (s : Int) < wr (v : Int) → ¬ wr (z_and (x : Int) (-(x : Int))) = 0)
    (o2 : wr (y : Int) = 0 → wr (s : Int) < wr (v : Int) → T (D + 3) 246 (23, [(0, zr 74), (1, zi (v : Int)), (2, zi (f : Int)), (3, zi (z_or ((x : Int) + (z_and (x : Int) (-(x : Int)))) (z_shr (Int.tdiv (wr (z_xor (x : Int) ((x : Int) + (z_and (x : Int) (-(x : Int)))))) (wr (z_and (x : Int) (-(x : Int))))) 2)))], [], m) κ)
    (o3 : wr (y : Int) = 0 → ¬ wr (s : Int) < wr (v : Int) → wr (m 74 38) = 0 → ¬ wr (z_and (x : Int) (-(x : Int))) = 0)
    (o4 : wr (y : Int) = 0 → ¬ wr (s : Int) < wr (v : Int) → wr (m 74 38) = 0 → T (D + 3) 246 (23, [(0, zr 74), (1, zi (v : Int)), (2, zi (f : Int)), (3, zi (z_or ((x : Int) + (z_and (x : Int) (-(x : Int)))) (z_shr (Int.tdiv (wr (z_xor (x : Int) ((x : Int) + (z_and (x : Int) (-(x : Int)))))) (wr (z_and (x : Int) (-(x : Int))))) 2)))], [], (zu (zu m 74 38 (x : Int)) 74 39 ((s : Int) - (v : Int)))) κ)
    (o5 : wr (y : Int) = 0 → ¬ wr (s : Int) < wr (v : Int) → ¬ wr (m 74 38) = 0 → ¬ wr ((s : Int) - (v : Int)) < wr (m 74 39) → ¬ wr (z_and (x : Int) (-(x : Int))) = 0)
    (o6 : wr (y : Int) = 0 → ¬ wr (s : Int) < wr (v : Int) → ¬ wr (m 74 38) = 0 → ¬ wr ((s : Int) - (v : Int)) < wr (m 74 39) → T (D + 3) 246 (23, [(0, zr 74), (1, zi (v : Int)), (2, zi (f : Int)), (3, zi (z_or ((x : Int) + (z_and (x : Int) (-(x : Int)))) (z_shr (Int.tdiv (wr (z_xor (x : Int) ((x : Int) + (z_and (x : Int) (-(x : Int)))))) (wr (z_and (x : Int) (-(x : Int))))) 2)))], [], m) κ)
    (o7 : wr (y : Int) = 0 → ¬ wr (s : Int) < wr (v : Int) → ¬ wr (m 74 38) = 0 → wr ((s : Int) - (v : Int)) < wr (m 74 39) → ¬ wr (z_and (x : Int) (-(x : Int))) = 0)
    (o8 : wr (y : Int) = 0 → ¬ wr (s : Int) < wr (v : Int) → ¬ wr (m 74 38) = 0 → wr ((s : Int) - (v : Int)) < wr (m 74 39) → T (D + 3) 246 (23, [(0, zr 74), (1, zi (v : Int)), (2, zi (f : Int)), (3, zi (z_or ((x : Int) + (z_and (x : Int) (-(x : Int)))) (z_shr (Int.tdiv (wr (z_xor (x : Int) ((x : Int) + (z_and (x : Int) (-(x : Int)))))) (wr (z_and (x : Int) (-(x : Int))))) 2)))], [], (zu (zu m 74 38 (x : Int)) 74 39 ((s : Int) - (v : Int)))) κ)
    (o9 : ¬ wr (y : Int) = 0 → T (D + 2) 292 (0, [(0, zi (y : Int))], [], m) (fun r m1 => T (D + 3) 246 (60, [(0, zr 74), (1, zi (v : Int)), (2, zi (f : Int)), (3, zi (x : Int)), (4, zi (s : Int)), (5, zi (y : Int))], r.toList ++ [zi 36, zr 75, zi (s : Int)], m1) κ)) :
    T (D + 3) 246 (42, lo, [], m) κ :=
  zkeep hT hlo (hT.1 [(23, [0, 1, 2, 3]), (42, [0, 1, 2, 3, 4, 5])] 6 (D + 3) 246 _ κ (And.intro (fun a1 => (And.intro (fun a3 => (hT.1 [(23, [0, 1, 2, 3]), (42, [0, 1, 2, 3, 4, 5])] 6 (D + 3) 246 (115, [(0, zr 74), (1, zi (v : Int)), (2, zi (f : Int)), (3, zi (x : Int)), (4, zi (s : Int)), (5, zi (y : Int))], [zi (x : Int)], m) _ (hT.1 [(23, [0, 1, 2, 3]), (42, [0, 1, 2, 3, 4, 5])] 6 (D + 3) 246 (123, [(0, zr 74), (1, zi (v : Int)), (2, zi (f : Int)), (3, zi (x : Int)), (4, zi (s : Int)), (5, zi (z_and (x : Int) (-(x : Int))))], [zi (z_and (x : Int) (-(x : Int))), zi (x : Int)], m) _ (hT.1 [(23, [0, 1, 2, 3]), (42, [0, 1, 2, 3, 4, 5])] 6 (D + 3) 246 (132, [(0, zr 74), (1, zi (v : Int)), (2, zi (f : Int)), (3, zi (x : Int)), (4, zi (s : Int)), (5, zi (z_and (x : Int) (-(x : Int)))), (6, zi ((x : Int) + (z_and (x : Int) (-(x : Int)))))], [zi (z_xor (x : Int) ((x : Int) + (z_and (x : Int) (-(x : Int))))), zi ((x : Int) + (z_and (x : Int) (-(x : Int))))], m) _ (And.intro (o1 a1 a3) (hT.1 [(23, [0, 1, 2, 3]), (42, [0, 1, 2, 3, 4, 5])] 6 (D + 3) 246 (139, [(0, zr 74), (1, zi (v : Int)), (2, zi (f : Int)), (3, zi (z_or ((x : Int) + (z_and (x : Int) (-(x : Int)))) (z_shr (Int.tdiv (wr (z_xor (x : Int) ((x : Int) + (z_and (x : Int) (-(x : Int)))))) (wr (z_and (x : Int) (-(x : Int))))) 2))), (4, zi (s : Int)), (5, zi (z_and (x : Int) (-(x : Int)))), (6, zi ((x : Int) + (z_and (x : Int) (-(x : Int)))))], [], m) _ (o2 a1 a3))))))) (fun a4 => (hT.1 [(23, [0, 1, 2, 3]), (42, [0, 1, 2, 3, 4, 5])] 6 (D + 3) 246 (84, [(0, zr 74), (1, zi (v : Int)), (2, zi (f : Int)), (3, zi (x : Int)), (4, zi (s : Int)), (5, zi (y : Int))], [zr 74], m) _ (And.intro (fun a5 => (And.intro trivial (hT.1 [(23, [0, 1, 2, 3]), (42, [0, 1, 2, 3, 4, 5])] 6 (D + 3) 246 (107, [(0, zr 74), (1, zi (v : Int)), (2, zi (f : Int)), (3, zi (x : Int)), (4, zi (s : Int)), (5, zi (y : Int))], [zr 74], (zu m 74 38 (x : Int))) _ (And.intro trivial (hT.1 [(23, [0, 1, 2, 3]), (42, [0, 1, 2, 3, 4, 5])] 6 (D + 3) 246 (116, [(0, zr 74), (1, zi (v : Int)), (2, zi (f : Int)), (3, zi (x : Int)), (4, zi (s : Int)), (5, zi (y : Int))], [zi (x : Int), zi (x : Int)], (zu (zu m 74 38 (x : Int)) 74 39 ((s : Int) - (v : Int)))) _ (hT.1 [(23, [0, 1, 2, 3]), (42, [0, 1, 2, 3, 4, 5])] 6 (D + 3) 246 (124, [(0, zr 74), (1, zi (v : Int)), (2, zi (f : Int)), (3, zi (x : Int)), (4, zi (s : Int)), (5, zi (z_and (x : Int) (-(x : Int))))], [zi ((x : Int) + (z_and (x : Int) (-(x : Int))))], (zu (zu m 74 38 (x : Int)) 74 39 ((s : Int) - (v : Int)))) _ (hT.1 [(23, [0, 1, 2, 3]), (42, [0, 1, 2, 3, 4, 5])] 6 (D + 3) 246 (134, [(0, zr 74), (1, zi (v : Int)), (2, zi (f : Int)), (3, zi (x : Int)), (4, zi (s : Int)), (5, zi (z_and (x : Int) (-(x : Int)))), (6, zi ((x : Int) + (z_and (x : Int) (-(x : Int)))))], [zi (z_and (x : Int) (-(x : Int))), zi (z_xor (x : Int) ((x : Int) + (z_and (x : Int) (-(x : Int))))), zi ((x : Int) + (z_and (x : Int) (-(x : Int))))], (zu (zu m 74 38 (x : Int)) 74 39 ((s : Int) - (v : Int)))) _ (And.intro (o3 a1 a4 a5) (o4 a1 a4 a5))))))))) (fun a6 => (hT.1 [(23, [0, 1, 2, 3]), (42, [0, 1, 2, 3, 4, 5])] 6 (D + 3) 246 (95, [(0, zr 74), (1, zi (v : Int)), (2, zi (f : Int)), (3, zi (x : Int)), (4, zi (s : Int)), (5, zi (y : Int))], [zr 74, zi ((s : Int) - (v : Int))], m) _ (And.intro (fun a7 => (hT.1 [(23, [0, 1, 2, 3]), (42, [0, 1, 2, 3, 4, 5])] 6 (D + 3) 246 (118, [(0, zr 74), (1, zi (v : Int)), (2, zi (f : Int)), (3, zi (x : Int)), (4, zi (s : Int)), (5, zi (y : Int))], [zi (z_and (x : Int) (-(x : Int)))], m) _ (hT.1 [(23, [0, 1, 2, 3]), (42, [0, 1, 2, 3, 4, 5])] 6 (D + 3) 246 (128, [(0, zr 74), (1, zi (v : Int)), (2, zi (f : Int)), (3, zi (x : Int)), (4, zi (s : Int)), (5, zi (z_and (x : Int) (-(x : Int)))), (6, zi ((x : Int) + (z_and (x : Int) (-(x : Int)))))], [zi ((x : Int) + (z_and (x : Int) (-(x : Int))))], m) _ (And.intro (o5 a1 a4 a6 a7) (hT.1 [(23, [0, 1, 2, 3]), (42, [0, 1, 2, 3, 4, 5])] 6 (D + 3) 246 (136, [(0, zr 74), (1, zi (v : Int)), (2, zi (f : Int)), (3, zi (x : Int)), (4, zi (s : Int)), (5, zi (z_and (x : Int) (-(x : Int)))), (6, zi ((x : Int) + (z_and (x : Int) (-(x : Int)))))], [zi 2, zi (Int.tdiv (wr (z_xor (x : Int) ((x : Int) + (z_and (x : Int) (-(x : Int)))))) (wr (z_and (x : Int) (-(x : Int))))), zi ((x : Int) + (z_and (x : Int) (-(x : Int))))], m) _ (o6 a1 a4 a6 a7)))))) (fun a8 => (And.intro trivial (hT.1 [(23, [0, 1, 2, 3]), (42, [0, 1, 2, 3, 4, 5])] 6 (D + 3) 246 (107, [(0, zr 74), (1, zi (v : Int)), (2, zi (f : Int)), (3, zi (x : Int)), (4, zi (s : Int)), (5, zi (y : Int))], [zr 74], (zu m 74 38 (x : Int))) _ (And.intro trivial (hT.1 [(23, [0, 1, 2, 3]), (42, [0, 1, 2, 3, 4, 5])] 6 (D + 3) 246 (116, [(0, zr 74), (1, zi (v : Int)), (2, zi (f : Int)), (3, zi (x : Int)), (4, zi (s : Int)), (5, zi (y : Int))], [zi (x : Int), zi (x : Int)], (zu (zu m 74 38 (x : Int)) 74 39 ((s : Int) - (v : Int)))) _ (hT.1 [(23, [0, 1, 2, 3]), (42, [0, 1, 2, 3, 4, 5])] 6 (D + 3) 246 (124, [(0, zr 74), (1, zi (v : Int)), (2, zi (f : Int)), (3, zi (x : Int)), (4, zi (s : Int)), (5, zi (z_and (x : Int) (-(x : Int))))], [zi ((x : Int) + (z_and (x : Int) (-(x : Int))))], (zu (zu m 74 38 (x : Int)) 74 39 ((s : Int) - (v : Int)))) _ (hT.1 [(23, [0, 1, 2, 3]), (42, [0, 1, 2, 3, 4, 5])] 6 (D + 3) 246 (134, [(0, zr 74), (1, zi (v : Int)), (2, zi (f : Int)), (3, zi (x : Int)), (4, zi (s : Int)), (5, zi (z_and (x : Int) (-(x : Int)))), (6, zi ((x : Int) + (z_and (x : Int) (-(x : Int)))))], [zi (z_and (x : Int) (-(x : Int))), zi (z_xor (x : Int) ((x : Int) + (z_and (x : Int) (-(x : Int))))), zi ((x : Int) + (z_and (x : Int) (-(x : Int))))], (zu (zu m 74 38 (x : Int)) 74 39 ((s : Int) - (v : Int)))) _ (And.intro (o7 a1 a4 a6 (Classical.byContradiction a8)) (o8 a1 a4 a6 (Classical.byContradiction a8)))))))))))))))))) (fun a2 => (hT.1 [(23, [0, 1, 2, 3]), (42, [0, 1, 2, 3, 4, 5])] 6 (D + 3) 246 (55, [(0, zr 74), (1, zi (v : Int)), (2, zi (f : Int)), (3, zi (x : Int)), (4, zi (s : Int)), (5, zi (y : Int))], [zi 36, zr 75, zi (s : Int)], m) _ (o9 a2)))))
theorem zb246_42 (hT : zRules T) {D : Nat} {κ : Option zA → zM → Prop} {m : zM} {v : Nat} {f : Nat} {x : Nat} {s : Nat} {y : Nat} {lo : zL} (hlo : z_keep [0, 1, 2, 3, 4, 5] lo = [(0, zr 74), (1, zi (v : Int)), (2, zi (f : Int)), (3, zi (x : Int)), (4, zi (s : Int)), (5, zi (y : Int))])  (hB : zB m) (h_v : v ≤ 999) (h_f : f ≤ 20) (h_x : x ≤ 2097152) (h_s : s ≤ 2160) (h_y : y ≤ 2097152) 
    (k1 : (y : Int) = 0 → (s : Int) < (v : Int) → ¬ (z_and (x : Int) (-(x : Int))) = 0)
    (k2 : (y : Int) = 0 → (s : Int) < (v : Int) → T (D + 3) 246 (23, [(0, zr 74), (1, zi (v : Int)), (2, zi (f : Int)), (3, zi (z_or ((x : Int) + (z_and (x : Int) (-(x : Int)))) (z_shr (Int.tdiv (z_xor (x : Int) ((x : Int) + (z_and (x : Int) (-(x : Int))))) (z_and (x : Int) (-(x : Int)))) 2)))], [], m) κ)
    (k3 : (y : Int) = 0 → ¬ (s : Int) < (v : Int) → wr (m 74 38) = 0 → ¬ (z_and (x : Int) (-(x : Int))) = 0)
    (k4 : (y : Int) = 0 → ¬ (s : Int) < (v : Int) → wr (m 74 38) = 0 → zB (zu (zu m 74 38 (x : Int)) 74 39 ((s : Int) - (v : Int))) → T (D + 3) 246 (23, [(0, zr 74), (1, zi (v : Int)), (2, zi (f : Int)), (3, zi (z_or ((x : Int) + (z_and (x : Int) (-(x : Int)))) (z_shr (Int.tdiv (z_xor (x : Int) ((x : Int) + (z_and (x : Int) (-(x : Int))))) (z_and (x : Int) (-(x : Int)))) 2)))], [], (zu (zu m 74 38 (x : Int)) 74 39 ((s : Int) - (v : Int)))) κ)
    (k5 : (y : Int) = 0 → ¬ (s : Int) < (v : Int) → ¬ wr (m 74 38) = 0 → ¬ ((s : Int) - (v : Int)) < wr (m 74 39) → ¬ (z_and (x : Int) (-(x : Int))) = 0)
    (k6 : (y : Int) = 0 → ¬ (s : Int) < (v : Int) → ¬ wr (m 74 38) = 0 → ¬ ((s : Int) - (v : Int)) < wr (m 74 39) → T (D + 3) 246 (23, [(0, zr 74), (1, zi (v : Int)), (2, zi (f : Int)), (3, zi (z_or ((x : Int) + (z_and (x : Int) (-(x : Int)))) (z_shr (Int.tdiv (z_xor (x : Int) ((x : Int) + (z_and (x : Int) (-(x : Int))))) (z_and (x : Int) (-(x : Int)))) 2)))], [], m) κ)
    (k7 : (y : Int) = 0 → ¬ (s : Int) < (v : Int) → ¬ wr (m 74 38) = 0 → ((s : Int) - (v : Int)) < wr (m 74 39) → ¬ (z_and (x : Int) (-(x : Int))) = 0)
    (k8 : (y : Int) = 0 → ¬ (s : Int) < (v : Int) → ¬ wr (m 74 38) = 0 → ((s : Int) - (v : Int)) < wr (m 74 39) → zB (zu (zu m 74 38 (x : Int)) 74 39 ((s : Int) - (v : Int))) → T (D + 3) 246 (23, [(0, zr 74), (1, zi (v : Int)), (2, zi (f : Int)), (3, zi (z_or ((x : Int) + (z_and (x : Int) (-(x : Int)))) (z_shr (Int.tdiv (z_xor (x : Int) ((x : Int) + (z_and (x : Int) (-(x : Int))))) (z_and (x : Int) (-(x : Int)))) 2)))], [], (zu (zu m 74 38 (x : Int)) 74 39 ((s : Int) - (v : Int)))) κ)
    (k9 : ¬ (y : Int) = 0 → T (D + 2) 292 (0, [(0, zi (y : Int))], [], m) (fun r m1 => T (D + 3) 246 (60, [(0, zr 74), (1, zi (v : Int)), (2, zi (f : Int)), (3, zi (x : Int)), (4, zi (s : Int)), (5, zi (y : Int))], r.toList ++ [zi 36, zr 75, zi (s : Int)], m1) κ)) :
    T (D + 3) 246 (42, lo, [], m) κ := by
  have hb5 : (-2147483648) ≤ (z_and (x : Int) (-(x : Int))) ∧ (z_and (x : Int) (-(x : Int))) ≤ 2147483647 := z_andB (x : Int) (-(x : Int))
  have hb6 : (-2147483648) ≤ (z_xor (x : Int) ((x : Int) + (z_and (x : Int) (-(x : Int))))) ∧ (z_xor (x : Int) ((x : Int) + (z_and (x : Int) (-(x : Int))))) ≤ 2147483647 := z_xorB (x : Int) ((x : Int) + (z_and (x : Int) (-(x : Int))))
  have hb7 : (-2147483648) ≤ (z_shr (Int.tdiv (z_xor (x : Int) ((x : Int) + (z_and (x : Int) (-(x : Int))))) (z_and (x : Int) (-(x : Int)))) 2) ∧ (z_shr (Int.tdiv (z_xor (x : Int) ((x : Int) + (z_and (x : Int) (-(x : Int))))) (z_and (x : Int) (-(x : Int)))) 2) ≤ 2147483647 := z_shrB (Int.tdiv (z_xor (x : Int) ((x : Int) + (z_and (x : Int) (-(x : Int))))) (z_and (x : Int) (-(x : Int)))) 2
  have hb8 : (-2147483648) ≤ (z_or ((x : Int) + (z_and (x : Int) (-(x : Int)))) (z_shr (Int.tdiv (z_xor (x : Int) ((x : Int) + (z_and (x : Int) (-(x : Int))))) (z_and (x : Int) (-(x : Int)))) 2)) ∧ (z_or ((x : Int) + (z_and (x : Int) (-(x : Int)))) (z_shr (Int.tdiv (z_xor (x : Int) ((x : Int) + (z_and (x : Int) (-(x : Int))))) (z_and (x : Int) (-(x : Int)))) 2)) ≤ 2147483647 := z_orB ((x : Int) + (z_and (x : Int) (-(x : Int)))) (z_shr (Int.tdiv (z_xor (x : Int) ((x : Int) + (z_and (x : Int) (-(x : Int))))) (z_and (x : Int) (-(x : Int)))) 2)
  have hb9 : (-2147483648) ≤ wr (m 74 38) ∧ wr (m 74 38) ≤ 2147483647 := wrB (m 74 38)
  have hb10 : (-2147483648) ≤ wr (m 74 39) ∧ wr (m 74 39) ≤ 2147483647 := wrB (m 74 39)
  have he0 : wr (y : Int) = (y : Int) := wr_id (by omega) (by omega)
  have he1 : wr (s : Int) = (s : Int) := wr_id (by omega) (by omega)
  have he2 : wr (v : Int) = (v : Int) := wr_id (by omega) (by omega)
  have he3 : wr (z_xor (x : Int) ((x : Int) + (z_and (x : Int) (-(x : Int))))) = (z_xor (x : Int) ((x : Int) + (z_and (x : Int) (-(x : Int))))) := wr_id (by omega) (by omega)
  have he4 : wr (z_and (x : Int) (-(x : Int))) = (z_and (x : Int) (-(x : Int))) := wr_id (by omega) (by omega)
  have he5 : wr ((s : Int) - (v : Int)) = ((s : Int) - (v : Int)) := wr_id (by omega) (by omega)
  have key := @zb246_42r T hT D κ m v f x s y lo hlo
  simp only [he0, he1, he2, he3, he4, he5, Int.toNat_natCast] at key
  exact key
    k1
    k2
    k3
    (fun x0 x1 x2 => k4 x0 x1 x2 (zB_u (zB_u hB trivial) trivial))
    k5
    k6
    k7
    (fun x0 x1 x2 x3 => k8 x0 x1 x2 x3 (zB_u (zB_u hB trivial) trivial))
    k9
theorem zb246_60r (hT : zRules T) {D : Nat} {κ : Option zA → zM → Prop} {m : zM} {v : Nat} {f : Nat} {x : Nat} {y : Nat} {s : Nat} {z : Nat} {lo : zL} (hlo : z_keep [0, 1, 2, 3, 5] lo = [(0, zr 74), (1, zi (v : Int)), (2, zi (f : Int)), (3, zi (x : Int)), (5, zi (y : Int))]) 
    (o1 : (0 ≤ wr (36 + (z : Int)) ∧ wr (36 + (z : Int)) < 59))
    (o2 : T (D + 3) 246 (42, [(0, zr 74), (1, zi (v : Int)), (2, zi (f : Int)), (3, zi (x : Int)), (4, zi ((s : Int) + (m 75 ((wr (36 + (z : Int))).toNat)))), (5, zi (z_and (y : Int) ((y : Int) - 1)))], [], m) κ) :
    T (D + 3) 246 (60, lo, [zi (z : Int), zi 36, zr 75, zi (s : Int)], m) κ :=
  zkeep hT hlo (hT.1 [(23, [0, 1, 2, 3]), (42, [0, 1, 2, 3, 4, 5])] 6 (D + 3) 246 _ κ (And.intro (o1) (hT.1 [(23, [0, 1, 2, 3]), (42, [0, 1, 2, 3, 4, 5])] 6 (D + 3) 246 (69, [(0, zr 74), (1, zi (v : Int)), (2, zi (f : Int)), (3, zi (x : Int)), (4, zi ((s : Int) + (m 75 ((wr (36 + (z : Int))).toNat)))), (5, zi (y : Int))], [zi (y : Int), zi (y : Int)], m) _ (o2))))
theorem zb246_60 (hT : zRules T) {D : Nat} {κ : Option zA → zM → Prop} {m : zM} {v : Nat} {f : Nat} {x : Nat} {y : Nat} {s : Nat} {z : Nat} {lo : zL} (hlo : z_keep [0, 1, 2, 3, 5] lo = [(0, zr 74), (1, zi (v : Int)), (2, zi (f : Int)), (3, zi (x : Int)), (5, zi (y : Int))])  (hB : zB m) (h_v : v ≤ 999) (h_f : f ≤ 20) (h_x : x ≤ 2097152) (h_y : y ≤ 2097152) (h_s : s ≤ 2160) (h_z : z ≤ 19) 
    (k1 : T (D + 3) 246 (42, [(0, zr 74), (1, zi (v : Int)), (2, zi (f : Int)), (3, zi (x : Int)), (4, zi ((s : Int) + (m 75 (z + 36)))), (5, zi (z_and (y : Int) ((y : Int) - 1)))], [], m) κ) :
    T (D + 3) 246 (60, lo, [zi (z : Int), zi 36, zr 75, zi (s : Int)], m) κ := by
  have hb6 : 0 ≤ (m 75 (z + 36)) ∧ (m 75 (z + 36)) ≤ 108 := zSg hB 75 36 56 0 108 rfl (z + 36) (by omega) (by omega)
  have hb7 : (-2147483648) ≤ (z_and (y : Int) ((y : Int) - 1)) ∧ (z_and (y : Int) ((y : Int) - 1)) ≤ 2147483647 := z_andB (y : Int) ((y : Int) - 1)
  have he0 : wr (36 + (z : Int)) = (36 + (z : Int)) := wr_id (by omega) (by omega)
  have he1 : (36 + (z : Int)).toNat = z + 36 := by omega
  have key := @zb246_60r T hT D κ m v f x y s z lo hlo
  simp only [he0, he1, Int.toNat_natCast] at key
  exact key
    (by refine ⟨?_, ?_⟩ <;> omega)
    k1
theorem zb132_0r (hT : zRules T) {D : Nat} {κ : Option zA → zM → Prop} {m : zM} {v : Int} 
    (o1 : T (D + 4) 178 (0, [(0, zr 1), (1, zi v)], [], m) (fun r m1 => T (D + 5) 132 (5, [(0, zr 1), (1, zi v)], r.toList ++ [], m1) κ)) :
    T (D + 5) 132 (0, [(0, zr 1), (1, zi v)], [], m) κ :=
  hT.1 [] 6 (D + 5) 132 _ κ (o1)
theorem zb132_0 (hT : zRules T) {D : Nat} {κ : Option zA → zM → Prop} {m : zM} {v : Int}  (hB : zB m) (h_v : (-2147483648) ≤ v ∧ v ≤ 2147483647) 
    (k1 : T (D + 4) 178 (0, [(0, zr 1), (1, zi v)], [], m) (fun r m1 => T (D + 5) 132 (5, [(0, zr 1), (1, zi v)], r.toList ++ [], m1) κ)) :
    T (D + 5) 132 (0, [(0, zr 1), (1, zi v)], [], m) κ := by
  exact zb132_0r hT
    k1
theorem zb132_5r (hT : zRules T) {D : Nat} {κ : Option zA → zM → Prop} {m : zM} {v : Int} {w : Int} {lo : zL} (hlo : z_keep [0, 1] lo = [(0, zr 1), (1, zi v)]) 
    (o1 : ¬ 0 < wr w → κ (some (zi (wr w))) m)
    (o2 : 0 < wr w → κ (some (zi (wr w))) (zu (zu (zu m 72 1 2) 73 0 ((m 25 4) - v)) 73 1 (m 25 3))) :
    T (D + 5) 132 (5, lo, [zi w], m) κ :=
  zkeep hT hlo (hT.1 [] 6 (D + 5) 132 _ κ (And.intro (fun a1 => (o1 a1)) (fun a2 => (hT.1 [] 6 (D + 5) 132 (15, [(0, zr 1), (1, zi v), (2, zi w)], [zr 1, zr 72], m) _ (hT.1 [] 6 (D + 5) 132 (27, [(0, zr 1), (1, zi v), (2, zi w)], [zr 25, zi ((m 25 4) - v), zr 72], m) _ (hT.1 [] 6 (D + 4) 46 _ _ (And.intro trivial (hT.1 [] 6 (D + 4) 46 (10, [(0, zr 72), (1, zi ((m 25 4) - v)), (2, zi (m 25 3))], [zi 0, zr 73], (zu m 72 1 2)) _ (And.intro (And.intro (z_ixL rfl) trivial) (hT.1 [] 6 (D + 4) 46 (18, [(0, zr 72), (1, zi ((m 25 4) - v)), (2, zi (m 25 3))], [zi (m 25 3), zi 1, zr 73], (zu (zu m 72 1 2) 73 0 ((m 25 4) - v))) _ (And.intro (And.intro (z_ixL rfl) trivial) (hT.1 [] 6 (D + 5) 132 _ _ (o2 (Classical.byContradiction a2))))))))))))))
theorem zb132_5 (hT : zRules T) {D : Nat} {κ : Option zA → zM → Prop} {m : zM} {v : Int} {w : Int} {lo : zL} (hlo : z_keep [0, 1] lo = [(0, zr 1), (1, zi v)])  (hB : zB m) (h_v : (-2147483648) ≤ v ∧ v ≤ 2147483647) (h_w : (-2) ≤ w ∧ w ≤ 20) 
    (k1 : ¬ 0 < w → κ (some (zi w)) m)
    (k2 : 0 < w → zB (zu (zu (zu m 72 1 2) 73 0 ((m 25 4) - v)) 73 1 (m 25 3)) → κ (some (zi w)) (zu (zu (zu m 72 1 2) 73 0 ((m 25 4) - v)) 73 1 (m 25 3))) :
    T (D + 5) 132 (5, lo, [zi w], m) κ := by
  have he0 : wr w = w := wr_id (by omega) (by omega)
  have key := @zb132_5r T hT D κ m v w lo hlo
  simp only [he0, Int.toNat_natCast] at key
  exact key
    k1
    (fun x0 => k2 x0 (zB_u (zB_u (zB_u hB (show 0 ≤ 2 ∧ 2 ≤ 26 from ⟨by omega, by omega⟩)) trivial) trivial))
theorem zb133_0r (hT : zRules T) {D : Nat} {κ : Option zA → zM → Prop} {m : zM} {v : Int} 
    (o1 : T (D + 4) 178 (0, [(0, zr 1), (1, zi v)], [], m) (fun r m1 => T (D + 5) 133 (5, [(0, zr 1), (1, zi v)], r.toList ++ [], m1) κ)) :
    T (D + 5) 133 (0, [(0, zr 1), (1, zi v)], [], m) κ :=
  hT.1 [] 6 (D + 5) 133 _ κ (o1)
theorem zb133_0 (hT : zRules T) {D : Nat} {κ : Option zA → zM → Prop} {m : zM} {v : Int}  (hB : zB m) (h_v : (-2147483648) ≤ v ∧ v ≤ 2147483647) 
    (k1 : T (D + 4) 178 (0, [(0, zr 1), (1, zi v)], [], m) (fun r m1 => T (D + 5) 133 (5, [(0, zr 1), (1, zi v)], r.toList ++ [], m1) κ)) :
    T (D + 5) 133 (0, [(0, zr 1), (1, zi v)], [], m) κ := by
  exact zb133_0r hT
    k1
theorem zb133_5r (hT : zRules T) {D : Nat} {κ : Option zA → zM → Prop} {m : zM} {v : Int} {w : Int} {lo : zL} (hlo : z_keep [0] lo = [(0, zr 1)]) 
    (o1 : ¬ wr w < 1 → T (D + 4) 173 (0, [(0, zr 1)], [], m) (fun r m1 => T (D + 5) 133 (17, [(0, zr 1), (2, zi w)], r.toList ++ [], m1) κ))
    (o2 : wr w < 1 → κ (some (zi (wr w))) m) :
    T (D + 5) 133 (5, lo, [zi w], m) κ :=
  zkeep hT hlo (hT.1 [] 6 (D + 5) 133 _ κ (And.intro (fun a1 => (o1 a1)) (fun a2 => (o2 (Classical.byContradiction a2)))))
theorem zb133_5 (hT : zRules T) {D : Nat} {κ : Option zA → zM → Prop} {m : zM} {v : Int} {w : Int} {lo : zL} (hlo : z_keep [0] lo = [(0, zr 1)])  (hB : zB m) (h_v : (-2147483648) ≤ v ∧ v ≤ 2147483647) (h_w : (-2) ≤ w ∧ w ≤ 20) 
    (k1 : ¬ w < 1 → T (D + 4) 173 (0, [(0, zr 1)], [], m) (fun r m1 => T (D + 5) 133 (17, [(0, zr 1), (2, zi w)], r.toList ++ [], m1) κ))
    (k2 : w < 1 → κ (some (zi w)) m) :
    T (D + 5) 133 (5, lo, [zi w], m) κ := by
  have he0 : wr w = w := wr_id (by omega) (by omega)
  have key := @zb133_5r T hT D κ m v w lo hlo
  simp only [he0, Int.toNat_natCast] at key
  exact key
    k1
    k2
theorem zb133_17r (hT : zRules T) {D : Nat} {κ : Option zA → zM → Prop} {m : zM} {w : Nat} {lo : zL} (hlo : z_keep [0, 2] lo = [(0, zr 1), (2, zi (w : Int))]) 
    (o1 : T (D + 4) 10 (0, [(0, zr 25), (1, zi (m 25 3))], [], (zu (zu (zu (zu m 17 12 0) 17 13 0) 17 14 0) 17 13 ((w : Int) - 1))) (fun r m1 => T (D + 5) 133 (48, [(0, zr 1), (2, zi (w : Int))], r.toList ++ [], m1) κ)) :
    T (D + 5) 133 (17, lo, [], m) κ :=
  zkeep hT hlo (hT.1 [] 6 (D + 5) 133 _ κ (hT.1 [] 6 (D + 4) 35 _ _ (And.intro trivial (And.intro trivial (hT.1 [] 6 (D + 4) 35 (10, [(0, zr 17)], [], (zu (zu m 17 12 0) 17 13 0)) _ (And.intro trivial (hT.1 [] 6 (D + 5) 133 _ _ (And.intro trivial (hT.1 [] 6 (D + 5) 133 (34, [(0, zr 1), (2, zi (w : Int))], [], (zu (zu (zu (zu m 17 12 0) 17 13 0) 17 14 0) 17 13 ((w : Int) - 1))) _ (o1))))))))))
theorem zb133_17 (hT : zRules T) {D : Nat} {κ : Option zA → zM → Prop} {m : zM} {w : Nat} {lo : zL} (hlo : z_keep [0, 2] lo = [(0, zr 1), (2, zi (w : Int))])  (hB : zB m) (h_w : w ≤ 20) 
    (k1 : zB (zu (zu (zu (zu m 17 12 0) 17 13 0) 17 14 0) 17 13 ((w : Int) - 1)) → T (D + 4) 10 (0, [(0, zr 25), (1, zi (m 25 3))], [], (zu (zu (zu (zu m 17 12 0) 17 13 0) 17 14 0) 17 13 ((w : Int) - 1))) (fun r m1 => T (D + 5) 133 (48, [(0, zr 1), (2, zi (w : Int))], r.toList ++ [], m1) κ)) :
    T (D + 5) 133 (17, lo, [], m) κ := by
  exact zb133_17r hT hlo
    (k1  (zB_u (zB_u (zB_u (zB_u hB trivial) trivial) trivial) trivial))
theorem zb133_48r (hT : zRules T) {D : Nat} {κ : Option zA → zM → Prop} {m : zM} {lo : zL} (hlo : z_keep [0] lo = [(0, zr 1)]) 
    (o1 : κ (some (zi (wr (wr (wr (wr (((m 17 12) * (m 24 1)) + ((m 17 13) * (m 24 2))))))))) (zu m 17 10 ((m 17 10) - wr (wr (((m 17 12) * (m 24 1)) + ((m 17 13) * (m 24 2))))))) :
    T (D + 5) 133 (48, lo, [], m) κ :=
  zkeep hT hlo (hT.1 [] 6 (D + 5) 133 _ κ (hT.1 [] 6 (D + 4) 37 _ _ (hT.1 [] 6 (D + 3) 36 _ _ (hT.1 [] 6 (D + 2) 33 _ _ (And.intro (z_ixL rfl) (hT.1 [] 6 (D + 2) 33 (8, [(0, zr 17), (1, zi (m 17 12)), (2, zi (m 17 13))], [zi ((m 17 12) * (m 24 1))], m) _ (And.intro (z_ixL rfl) (hT.1 [] 6 (D + 2) 33 (16, [(0, zr 17), (1, zi (m 17 12)), (2, zi (m 17 13))], [zi ((m 17 13) * (m 24 2)), zi ((m 17 12) * (m 24 1))], m) _ (hT.1 [] 6 (D + 3) 36 _ _ (hT.1 [] 6 (D + 4) 37 _ _ (And.intro trivial (hT.1 [] 6 (D + 3) 36 _ _ (hT.1 [] 6 (D + 2) 33 _ _ (And.intro (z_ixL rfl) (hT.1 [] 6 (D + 2) 33 (8, [(0, zr 17), (1, zi (m 17 12)), (2, zi (m 17 13))], [zi ((m 17 12) * (m 24 1))], (zu m 17 10 ((m 17 10) - wr (wr (((m 17 12) * (m 24 1)) + ((m 17 13) * (m 24 2))))))) _ (And.intro (z_ixL rfl) (hT.1 [] 6 (D + 2) 33 (16, [(0, zr 17), (1, zi (m 17 12)), (2, zi (m 17 13))], [zi ((m 17 13) * (m 24 2)), zi ((m 17 12) * (m 24 1))], (zu m 17 10 ((m 17 10) - wr (wr (((m 17 12) * (m 24 1)) + ((m 17 13) * (m 24 2))))))) _ (hT.1 [] 6 (D + 3) 36 _ _ (hT.1 [] 6 (D + 4) 37 _ _ (hT.1 [] 6 (D + 5) 133 _ _ (o1)))))))))))))))))))))
theorem zb133_48 (hT : zRules T) {D : Nat} {κ : Option zA → zM → Prop} {m : zM} {lo : zL} (hlo : z_keep [0] lo = [(0, zr 1)])  (hB : zB m) 
    (k1 : zB (zu m 17 10 ((m 17 10) - wr (((m 17 12) * (m 24 1)) + ((m 17 13) * (m 24 2))))) → κ (some (zi (wr (((m 17 12) * (m 24 1)) + ((m 17 13) * (m 24 2)))))) (zu m 17 10 ((m 17 10) - wr (((m 17 12) * (m 24 1)) + ((m 17 13) * (m 24 2)))))) :
    T (D + 5) 133 (48, lo, [], m) κ := by
  have hb0 : 0 ≤ (m 24 1) ∧ (m 24 1) ≤ 9 := hB 24 1
  have hb1 : 0 ≤ (m 24 2) ∧ (m 24 2) ≤ 9 := hB 24 2
  have hb2 : (-2147483648) ≤ wr (((m 17 12) * (m 24 1)) + ((m 17 13) * (m 24 2))) ∧ wr (((m 17 12) * (m 24 1)) + ((m 17 13) * (m 24 2))) ≤ 2147483647 := wrB (((m 17 12) * (m 24 1)) + ((m 17 13) * (m 24 2)))
  have he0 : wr (wr (((m 17 12) * (m 24 1)) + ((m 17 13) * (m 24 2)))) = wr (((m 17 12) * (m 24 1)) + ((m 17 13) * (m 24 2))) := wr_id (by omega) (by omega)
  have key := @zb133_48r T hT D κ m  lo hlo
  simp only [he0, Int.toNat_natCast] at key
  exact key
    (k1  (zB_u hB trivial))
theorem zb247_0r (hT : zRules T) {D : Nat} {κ : Option zA → zM → Prop} {m : zM} {v : Int} 
    (o1 : wr v < 1 → κ (some (zi (-1))) (zu m 74 12 0))
    (o2 : ¬ wr v < 1 → 999 < wr v → κ (some (zi (-1))) (zu m 74 12 0))
    (o3 : ¬ wr v < 1 → ¬ 999 < wr v → T (D + 3) 246 (0, [(0, zr 74), (1, zi v)], [], (zu m 74 12 0)) (fun r m1 => T (D + 4) 247 (23, [(0, zr 74), (1, zi v)], r.toList ++ [], m1) κ)) :
    T (D + 4) 247 (0, [(0, zr 74), (1, zi v)], [], m) κ :=
  hT.1 [] 6 (D + 4) 247 _ κ (And.intro trivial (hT.1 [] 6 (D + 4) 247 (10, [(0, zr 74), (1, zi v)], [zi 999, zi 1, zi v], (zu m 74 12 0)) _ (hT.1 [] 6 (D + 3) 186 _ _ (And.intro (fun a1 => (And.intro (z_b01L rfl) (hT.1 [] 6 (D + 4) 247 _ _ (And.intro (fun a3 => (z_litF a3 rfl).elim) (fun _ => (o1 a1)))))) (fun a2 => (And.intro (fun a4 => (hT.1 [] 6 (D + 3) 186 (14, [(0, zi v), (1, zi 1), (2, zi 999)], [], (zu m 74 12 0)) _ (And.intro (z_b01L rfl) (hT.1 [] 6 (D + 4) 247 _ _ (And.intro (fun a6 => (z_litF a6 rfl).elim) (fun _ => (o2 a2 a4))))))) (fun a5 => (hT.1 [] 6 (D + 3) 186 (10, [(0, zi v), (1, zi 1), (2, zi 999)], [], (zu m 74 12 0)) _ (And.intro (z_b01L rfl) (hT.1 [] 6 (D + 4) 247 _ _ (And.intro (fun _ => (o3 a2 a5)) (fun a7 => (a7 (z_litT rfl)).elim))))))))))))
theorem zb247_0 (hT : zRules T) {D : Nat} {κ : Option zA → zM → Prop} {m : zM} {v : Int}  (hB : zB m) (h_v : (-2147483648) ≤ v ∧ v ≤ 2147483647) 
    (k1 : v < 1 → zB (zu m 74 12 0) → κ (some (zi (-1))) (zu m 74 12 0))
    (k2 : ¬ v < 1 → 999 < v → zB (zu m 74 12 0) → κ (some (zi (-1))) (zu m 74 12 0))
    (k3 : ¬ v < 1 → ¬ 999 < v → zB (zu m 74 12 0) → T (D + 3) 246 (0, [(0, zr 74), (1, zi v)], [], (zu m 74 12 0)) (fun r m1 => T (D + 4) 247 (23, [(0, zr 74), (1, zi v)], r.toList ++ [], m1) κ)) :
    T (D + 4) 247 (0, [(0, zr 74), (1, zi v)], [], m) κ := by
  have he0 : wr v = v := wr_id (by omega) (by omega)
  have key := @zb247_0r T hT D κ m v
  simp only [he0, Int.toNat_natCast] at key
  exact key
    (fun x0 => k1 x0 (zB_u hB trivial))
    (fun x0 x1 => k2 x0 x1 (zB_u hB trivial))
    (fun x0 x1 => k3 x0 x1 (zB_u hB trivial))
theorem zb247_23r (hT : zRules T) {D : Nat} {κ : Option zA → zM → Prop} {m : zM} {v : Int} {w : Int} {lo : zL} (hlo : z_keep [0] lo = [(0, zr 74)]) 
    (o1 : ¬ wr w < 0 → κ (some (zi (wr w))) (zu (zu (zu (zu (zu m 74 11 0) 81 0 (m 74 39)) 74 11 1) 81 1 (m 74 38)) 74 11 2))
    (o2 : wr w < 0 → κ (some (zi (wr w))) m) :
    T (D + 4) 247 (23, lo, [zi w], m) κ :=
  zkeep hT hlo (hT.1 [] 6 (D + 4) 247 _ κ (And.intro (fun a1 => (And.intro trivial (hT.1 [] 6 (D + 4) 247 (35, [(0, zr 74), (2, zi w)], [], (zu m 74 11 0)) _ (hT.1 [] 6 (D + 3) 189 _ _ (And.intro (And.intro (z_ixL rfl) trivial) (hT.1 [] 6 (D + 3) 189 (10, [(0, zr 74), (1, zi (m 74 39))], [], (zu (zu m 74 11 0) 81 0 (m 74 39))) _ (And.intro trivial (hT.1 [] 6 (D + 3) 189 (20, [(0, zr 74), (1, zi (m 74 39))], [], (zu (zu (zu m 74 11 0) 81 0 (m 74 39)) 74 11 1)) _ (hT.1 [] 6 (D + 4) 247 _ _ (hT.1 [] 6 (D + 3) 189 _ _ (And.intro (And.intro (z_ixL rfl) trivial) (hT.1 [] 6 (D + 3) 189 (10, [(0, zr 74), (1, zi (m 74 38))], [], (zu (zu (zu (zu m 74 11 0) 81 0 (m 74 39)) 74 11 1) 81 1 (m 74 38))) _ (And.intro trivial (hT.1 [] 6 (D + 3) 189 (20, [(0, zr 74), (1, zi (m 74 38))], [], (zu (zu (zu (zu (zu m 74 11 0) 81 0 (m 74 39)) 74 11 1) 81 1 (m 74 38)) 74 11 2)) _ (hT.1 [] 6 (D + 4) 247 _ _ (o1 a1)))))))))))))))) (fun a2 => (o2 (Classical.byContradiction a2)))))
theorem zb247_23 (hT : zRules T) {D : Nat} {κ : Option zA → zM → Prop} {m : zM} {v : Int} {w : Int} {lo : zL} (hlo : z_keep [0] lo = [(0, zr 74)])  (hB : zB m) (h_v : (-2147483648) ≤ v ∧ v ≤ 2147483647) (h_w : (-2) ≤ w ∧ w ≤ 20) 
    (k1 : ¬ w < 0 → zB (zu (zu (zu (zu (zu m 74 11 0) 81 0 (m 74 39)) 74 11 1) 81 1 (m 74 38)) 74 11 2) → κ (some (zi w)) (zu (zu (zu (zu (zu m 74 11 0) 81 0 (m 74 39)) 74 11 1) 81 1 (m 74 38)) 74 11 2))
    (k2 : w < 0 → κ (some (zi w)) m) :
    T (D + 4) 247 (23, lo, [zi w], m) κ := by
  have he0 : wr w = w := wr_id (by omega) (by omega)
  have key := @zb247_23r T hT D κ m v w lo hlo
  simp only [he0, Int.toNat_natCast] at key
  exact key
    (fun x0 => k1 x0 (zB_u (zB_u (zB_u (zB_u (zB_u hB (show 0 ≤ 0 ∧ 0 ≤ 32 from ⟨by omega, by omega⟩)) trivial) (show 0 ≤ 1 ∧ 1 ≤ 32 from ⟨by omega, by omega⟩)) trivial) (show 0 ≤ 2 ∧ 2 ≤ 32 from ⟨by omega, by omega⟩)))
    k2
theorem zb248_0r (hT : zRules T) {D : Nat} {κ : Option zA → zM → Prop} {m : zM} {v : Int} 
    (o1 : wr v < 1 → κ (some (zi (-1))) (zu m 74 12 0))
    (o2 : ¬ wr v < 1 → 999 < wr v → κ (some (zi (-1))) (zu m 74 12 0))
    (o3 : ¬ wr v < 1 → ¬ 999 < wr v → T (D + 3) 246 (0, [(0, zr 74), (1, zi v)], [], (zu m 74 12 0)) (fun r m1 => T (D + 4) 248 (23, [(0, zr 74), (1, zi v)], r.toList ++ [], m1) κ)) :
    T (D + 4) 248 (0, [(0, zr 74), (1, zi v)], [], m) κ :=
  hT.1 [(41, [0, 2, 3])] 6 (D + 4) 248 _ κ (And.intro trivial (hT.1 [(41, [0, 2, 3])] 6 (D + 4) 248 (10, [(0, zr 74), (1, zi v)], [zi 999, zi 1, zi v], (zu m 74 12 0)) _ (hT.1 [] 6 (D + 3) 186 _ _ (And.intro (fun a1 => (And.intro (z_b01L rfl) (hT.1 [(41, [0, 2, 3])] 6 (D + 4) 248 _ _ (And.intro (fun a3 => (z_litF a3 rfl).elim) (fun _ => (o1 a1)))))) (fun a2 => (And.intro (fun a4 => (hT.1 [] 6 (D + 3) 186 (14, [(0, zi v), (1, zi 1), (2, zi 999)], [], (zu m 74 12 0)) _ (And.intro (z_b01L rfl) (hT.1 [(41, [0, 2, 3])] 6 (D + 4) 248 _ _ (And.intro (fun a6 => (z_litF a6 rfl).elim) (fun _ => (o2 a2 a4))))))) (fun a5 => (hT.1 [] 6 (D + 3) 186 (10, [(0, zi v), (1, zi 1), (2, zi 999)], [], (zu m 74 12 0)) _ (And.intro (z_b01L rfl) (hT.1 [(41, [0, 2, 3])] 6 (D + 4) 248 _ _ (And.intro (fun _ => (o3 a2 a5)) (fun a7 => (a7 (z_litT rfl)).elim))))))))))))
theorem zb248_0 (hT : zRules T) {D : Nat} {κ : Option zA → zM → Prop} {m : zM} {v : Int}  (hB : zB m) (h_v : (-2147483648) ≤ v ∧ v ≤ 2147483647) 
    (k1 : v < 1 → zB (zu m 74 12 0) → κ (some (zi (-1))) (zu m 74 12 0))
    (k2 : ¬ v < 1 → 999 < v → zB (zu m 74 12 0) → κ (some (zi (-1))) (zu m 74 12 0))
    (k3 : ¬ v < 1 → ¬ 999 < v → zB (zu m 74 12 0) → T (D + 3) 246 (0, [(0, zr 74), (1, zi v)], [], (zu m 74 12 0)) (fun r m1 => T (D + 4) 248 (23, [(0, zr 74), (1, zi v)], r.toList ++ [], m1) κ)) :
    T (D + 4) 248 (0, [(0, zr 74), (1, zi v)], [], m) κ := by
  have he0 : wr v = v := wr_id (by omega) (by omega)
  have key := @zb248_0r T hT D κ m v
  simp only [he0, Int.toNat_natCast] at key
  exact key
    (fun x0 => k1 x0 (zB_u hB trivial))
    (fun x0 x1 => k2 x0 x1 (zB_u hB trivial))
    (fun x0 x1 => k3 x0 x1 (zB_u hB trivial))
theorem zb248_23r (hT : zRules T) {D : Nat} {κ : Option zA → zM → Prop} {m : zM} {v : Int} {w : Int} {lo : zL} (hlo : z_keep [0] lo = [(0, zr 74)]) 
    (o1 : ¬ wr w < 0 → T (D + 3) 229 (0, [(0, zr 74), (1, zr 75)], [], m) (fun r m1 => T (D + 4) 248 (38, [(0, zr 74), (2, zi w)], r.toList ++ [], m1) κ))
    (o2 : wr w < 0 → κ (some (zi (wr w))) m) :
    T (D + 4) 248 (23, lo, [zi w], m) κ :=
  zkeep hT hlo (hT.1 [(41, [0, 2, 3])] 6 (D + 4) 248 _ κ (And.intro (fun a1 => (hT.1 [(41, [0, 2, 3])] 6 (D + 4) 248 (35, [(0, zr 74), (2, zi w)], [zr 75, zr 74], m) _ (o1 a1))) (fun a2 => (o2 (Classical.byContradiction a2)))))
theorem zb248_23 (hT : zRules T) {D : Nat} {κ : Option zA → zM → Prop} {m : zM} {v : Int} {w : Int} {lo : zL} (hlo : z_keep [0] lo = [(0, zr 74)])  (hB : zB m) (h_v : (-2147483648) ≤ v ∧ v ≤ 2147483647) (h_w : (-2) ≤ w ∧ w ≤ 20) 
    (k1 : ¬ w < 0 → T (D + 3) 229 (0, [(0, zr 74), (1, zr 75)], [], m) (fun r m1 => T (D + 4) 248 (38, [(0, zr 74), (2, zi w)], r.toList ++ [], m1) κ))
    (k2 : w < 0 → κ (some (zi w)) m) :
    T (D + 4) 248 (23, lo, [zi w], m) κ := by
  have he0 : wr w = w := wr_id (by omega) (by omega)
  have key := @zb248_23r T hT D κ m v w lo hlo
  simp only [he0, Int.toNat_natCast] at key
  exact key
    k1
    k2
theorem zb248_38r (hT : zRules T) {D : Nat} {κ : Option zA → zM → Prop} {m : zM} {w : Nat} {lo : zL} (hlo : z_keep [0, 2] lo = [(0, zr 74), (2, zi (w : Int))]) 
    (o1 : T (D + 4) 248 (41, [(0, zr 74), (2, zi (w : Int)), (3, zi 19)], [], m) κ) :
    T (D + 4) 248 (38, lo, [], m) κ :=
  zkeep hT hlo (hT.1 [(41, [0, 2, 3])] 6 (D + 4) 248 _ κ (o1))
theorem zb248_38 (hT : zRules T) {D : Nat} {κ : Option zA → zM → Prop} {m : zM} {w : Nat} {lo : zL} (hlo : z_keep [0, 2] lo = [(0, zr 74), (2, zi (w : Int))])  (hB : zB m) (h_w : w ≤ 20) 
    (k1 : T (D + 4) 248 (41, [(0, zr 74), (2, zi (w : Int)), (3, zi 19)], [], m) κ) :
    T (D + 4) 248 (38, lo, [], m) κ := by
  exact zb248_38r hT hlo
    k1
theorem zb248_41r (hT : zRules T) {D : Nat} {κ : Option zA → zM → Prop} {m : zM} {w : Nat} {i : Int} {lo : zL} (hlo : z_keep [0, 2, 3] lo = [(0, zr 74), (2, zi (w : Int)), (3, zi i)]) 
    (o1 : wr i < 0 → κ (some (zi (wr ((m 79 2) * ((w : Int) - 1))))) (zu m 75 58 ((m 75 58) - ((m 79 2) * ((w : Int) - 1)))))
    (o2 : ¬ wr i < 0 → ¬ wr (z_and (z_shr (m 74 38) i) 1) = 1 → T (D + 4) 248 (41, [(0, zr 74), (2, zi (w : Int)), (3, zi (i + (-1)))], [], m) κ)
    (o3 : ¬ wr i < 0 → wr (z_and (z_shr (m 74 38) i) 1) = 1 → T (D + 3) 243 (0, [(0, zr 74), (1, zi i)], [], m) (fun r m1 => T (D + 4) 248 (61, [(0, zr 74), (2, zi (w : Int)), (3, zi i)], r.toList ++ [], m1) κ)) :
    T (D + 4) 248 (41, lo, [], m) κ :=
  zkeep hT hlo (hT.1 [(41, [0, 2, 3])] 6 (D + 4) 248 _ κ (And.intro (fun a1 => (hT.1 [(41, [0, 2, 3])] 6 (D + 4) 248 (74, [(0, zr 74), (2, zi (w : Int)), (3, zi i)], [zi 58, zr 75, zi 58, zr 75], m) _ (And.intro (z_ixL rfl) (And.intro (z_ixL rfl) (hT.1 [(41, [0, 2, 3])] 6 (D + 4) 248 (82, [(0, zr 74), (2, zi (w : Int)), (3, zi i)], [zi (w : Int), zi (m 79 2), zi (m 75 58), zi 58, zr 75], m) _ (And.intro (And.intro (z_ixL rfl) trivial) (hT.1 [(41, [0, 2, 3])] 6 (D + 4) 248 (88, [(0, zr 74), (2, zi (w : Int)), (3, zi i)], [zr 74], (zu m 75 58 ((m 75 58) - ((m 79 2) * ((w : Int) - 1))))) _ (And.intro (z_ixL rfl) (hT.1 [(41, [0, 2, 3])] 6 (D + 4) 248 (96, [(0, zr 74), (2, zi (w : Int)), (3, zi i)], [zi ((w : Int) - 1), zi (m 79 2)], (zu m 75 58 ((m 75 58) - ((m 79 2) * ((w : Int) - 1))))) _ (o1 a1)))))))))) (fun a2 => (hT.1 [] 6 (D + 3) 187 _ _ (hT.1 [] 6 (D + 3) 187 (6, [(0, zi (m 74 38)), (1, zi i)], [zi 1, zi (z_and (z_shr (m 74 38) i) 1)], m) _ (And.intro (fun a3 => (And.intro (z_b01L rfl) (hT.1 [(41, [0, 2, 3])] 6 (D + 4) 248 _ _ (And.intro (fun _ => (o2 a2 a3)) (fun a5 => (a5 (z_litT rfl)).elim))))) (fun a4 => (And.intro (z_b01L rfl) (hT.1 [(41, [0, 2, 3])] 6 (D + 4) 248 _ _ (And.intro (fun a6 => (z_litF a6 rfl).elim) (fun _ => (o3 a2 (Classical.byContradiction a4)))))))))))))
theorem zb248_41 (hT : zRules T) {D : Nat} {κ : Option zA → zM → Prop} {m : zM} {w : Nat} {i : Int} {lo : zL} (hlo : z_keep [0, 2, 3] lo = [(0, zr 74), (2, zi (w : Int)), (3, zi i)])  (hB : zB m) (h_w : w ≤ 20) (h_i : (-1) ≤ i ∧ i ≤ 19) 
    (k1 : i < 0 → zB (zu m 75 58 ((m 75 58) - ((m 79 2) * ((w : Int) - 1)))) → κ (some (zi (wr ((m 79 2) * ((w : Int) - 1))))) (zu m 75 58 ((m 75 58) - ((m 79 2) * ((w : Int) - 1)))))
    (k2 : ¬ i < 0 → ¬ (z_and (z_shr (m 74 38) i) 1) = 1 → T (D + 4) 248 (41, [(0, zr 74), (2, zi (w : Int)), (3, zi (i + (-1)))], [], m) κ)
    (k3 : ¬ i < 0 → (z_and (z_shr (m 74 38) i) 1) = 1 → T (D + 3) 243 (0, [(0, zr 74), (1, zi i)], [], m) (fun r m1 => T (D + 4) 248 (61, [(0, zr 74), (2, zi (w : Int)), (3, zi i)], r.toList ++ [], m1) κ)) :
    T (D + 4) 248 (41, lo, [], m) κ := by
  have hb2 : 0 ≤ (m 79 2) ∧ (m 79 2) ≤ 9 := hB 79 2
  have hb3 : (-2147483648) ≤ wr ((m 79 2) * ((w : Int) - 1)) ∧ wr ((m 79 2) * ((w : Int) - 1)) ≤ 2147483647 := wrB ((m 79 2) * ((w : Int) - 1))
  have hb4 : (-2147483648) ≤ (z_shr (m 74 38) i) ∧ (z_shr (m 74 38) i) ≤ 2147483647 := z_shrB (m 74 38) i
  have hb5 : 0 ≤ (z_and (z_shr (m 74 38) i) 1) ∧ (z_and (z_shr (m 74 38) i) 1) ≤ 1 := z_andC (z_shr (m 74 38) i) 1 (by decide)
  have he0 : wr i = i := wr_id (by omega) (by omega)
  have he1 : wr (z_and (z_shr (m 74 38) i) 1) = (z_and (z_shr (m 74 38) i) 1) := wr_id (by omega) (by omega)
  have key := @zb248_41r T hT D κ m w i lo hlo
  simp only [he0, he1, Int.toNat_natCast] at key
  exact key
    (fun x0 => k1 x0 (zB_u hB trivial))
    k2
    k3
theorem zb248_61r (hT : zRules T) {D : Nat} {κ : Option zA → zM → Prop} {m : zM} {w : Nat} {i : Nat} {lo : zL} (hlo : z_keep [0, 2, 3] lo = [(0, zr 74), (2, zi (w : Int)), (3, zi (i : Int))]) 
    (o1 : T (D + 4) 248 (41, [(0, zr 74), (2, zi (w : Int)), (3, zi ((i : Int) + (-1)))], [], m) κ) :
    T (D + 4) 248 (61, lo, [], m) κ :=
  zkeep hT hlo (hT.1 [(41, [0, 2, 3])] 6 (D + 4) 248 _ κ (o1))
theorem zb248_61 (hT : zRules T) {D : Nat} {κ : Option zA → zM → Prop} {m : zM} {w : Nat} {i : Nat} {lo : zL} (hlo : z_keep [0, 2, 3] lo = [(0, zr 74), (2, zi (w : Int)), (3, zi (i : Int))])  (hB : zB m) (h_w : w ≤ 20) (h_i : i ≤ 19) 
    (k1 : T (D + 4) 248 (41, [(0, zr 74), (2, zi (w : Int)), (3, zi ((i : Int) + (-1)))], [], m) κ) :
    T (D + 4) 248 (61, lo, [], m) κ := by
  exact zb248_61r hT hlo
    k1
end ZBlocks
end
-- 9r.sets.lean.txt
section
/-! Sets of pieces: how many, what they sum to; the least set; the next with as many. -/
noncomputable def b_cnt : Nat → Nat → Nat
  | 0, _ => 0
  | i + 1, x => b_cnt i x + (if x.testBit i then 1 else 0)
noncomputable def b_sum (f : Nat → Int) : Nat → Nat → Int
  | 0, _ => 0
  | i + 1, x => b_sum f i x + (if x.testBit i then f i else 0)
/-- so many of the first i sum to s -/
noncomputable def b_mk (f : Nat → Int) : Nat → Nat → Int → Bool
  | 0, j, s => decide (j = 0) && decide (s = 0)
  | i + 1, 0, s => b_mk f i 0 s
  | i + 1, j + 1, s => b_mk f i (j + 1) s || b_mk f i j (s - f i)
/-- the least set of them -/
noncomputable def b_pick (f : Nat → Int) : Nat → Nat → Int → Nat
  | 0, _, _ => 0
  | i + 1, j, s => if b_mk f i j s = true then b_pick f i j s else 2 ^ i + b_pick f i (j - 1) (s - f i)
theorem b_cnt_congr {x y : Nat} : ∀ i, (∀ q, q < i → x.testBit q = y.testBit q) → b_cnt i x = b_cnt i y
  | 0, _ => rfl
  | i + 1, h => by rw [b_cnt, b_cnt, b_cnt_congr i (fun q hq => h q (by omega)), h i (by omega)]
theorem b_sum_congr {f : Nat → Int} {x y : Nat} : ∀ i, (∀ q, q < i → x.testBit q = y.testBit q) → b_sum f i x = b_sum f i y
  | 0, _ => rfl
  | i + 1, h => by rw [b_sum, b_sum, b_sum_congr i (fun q hq => h q (by omega)), h i (by omega)]
theorem b_sum_fcongr {f g : Nat → Int} {x : Nat} : ∀ i, (∀ q, q < i → f q = g q) → b_sum f i x = b_sum g i x
  | 0, _ => rfl
  | i + 1, h => by rw [b_sum, b_sum, b_sum_fcongr i (fun q hq => h q (by omega)), h i (by omega)]
theorem b_mk_fcongr {f g : Nat → Int} : ∀ i j s, (∀ q, q < i → f q = g q) → b_mk f i j s = b_mk g i j s
  | 0, _, _, _ => rfl
  | i + 1, 0, s, h => by rw [b_mk, b_mk, b_mk_fcongr i 0 s (fun q hq => h q (by omega))]
  | i + 1, j + 1, s, h => by rw [b_mk, b_mk, b_mk_fcongr i (j + 1) s (fun q hq => h q (by omega)), b_mk_fcongr i j _ (fun q hq => h q (by omega)), h i (by omega)]
theorem b_pick_fcongr {f g : Nat → Int} : ∀ i j s, (∀ q, q < i → f q = g q) → b_pick f i j s = b_pick g i j s
  | 0, _, _, _ => rfl
  | i + 1, j, s, h => by rw [b_pick, b_pick, b_mk_fcongr i j s (fun q hq => h q (by omega)), b_pick_fcongr i j s (fun q hq => h q (by omega)), b_pick_fcongr i _ _ (fun q hq => h q (by omega)), h i (by omega)]
theorem b_cnt_le {x : Nat} : ∀ i, b_cnt i x ≤ i
  | 0 => Nat.le_refl 0
  | i + 1 => by
    have := b_cnt_le (x := x) i
    rw [b_cnt]
    split <;> omega
theorem b_cnt_mono {x : Nat} : ∀ i j, i ≤ j → b_cnt i x ≤ b_cnt j x
  | i, 0, h => by
    have : i = 0 := by omega
    subst this
    exact Nat.le_refl _
  | i, j + 1, h => by
    by_cases e : i = j + 1
    · subst e
      exact Nat.le_refl _
    · have := b_cnt_mono (x := x) i j (by omega)
      rw [b_cnt]
      omega
theorem b_cnt_slow {x : Nat} : ∀ i j, i ≤ j → b_cnt j x + i ≤ b_cnt i x + j
  | i, 0, h => by
    have : i = 0 := by omega
    subst this
    exact Nat.le_refl _
  | i, j + 1, h => by
    by_cases e : i = j + 1
    · subst e
      exact Nat.le_refl _
    · have := b_cnt_slow (x := x) i j (by omega)
      rw [b_cnt]
      split <;> omega
theorem b_cnt_ge {x : Nat} : ∀ i j, x < 2 ^ i → i ≤ j → b_cnt j x = b_cnt i x
  | i, 0, _, h => by
    have : i = 0 := by omega
    subst this
    rfl
  | i, j + 1, hx, h => by
    by_cases e : i = j + 1
    · subst e
      rfl
    · rw [b_cnt, b_cnt_ge i j hx (by omega), Nat.testBit_lt_two_pow (Nat.lt_of_lt_of_le hx (Nat.pow_le_pow_right (by omega) (by omega)))]
      rfl
theorem b_sum_ge {f : Nat → Int} {x : Nat} : ∀ i j, x < 2 ^ i → i ≤ j → b_sum f j x = b_sum f i x
  | i, 0, _, h => by
    have : i = 0 := by omega
    subst this
    rfl
  | i, j + 1, hx, h => by
    by_cases e : i = j + 1
    · subst e
      rfl
    · rw [b_sum, b_sum_ge i j hx (by omega), Nat.testBit_lt_two_pow (Nat.lt_of_lt_of_le hx (Nat.pow_le_pow_right (by omega) (by omega)))]
      simp
theorem b_top {i y : Nat} (hy : y < 2 ^ i) : (2 ^ i + y).testBit i = true ∧ ∀ q, q < i → (2 ^ i + y).testBit q = y.testBit q := by
  refine ⟨?_, fun q hq => Nat.testBit_two_pow_add_gt hq y⟩
  rw [Nat.testBit_two_pow_add_eq, Nat.testBit_lt_two_pow hy]
  rfl
theorem b_cnt_top {i y : Nat} (hy : y < 2 ^ i) : b_cnt (i + 1) (2 ^ i + y) = b_cnt i y + 1 := by
  rw [b_cnt, (b_top hy).1, b_cnt_congr i (b_top hy).2, if_pos rfl]
theorem b_sum_top {f : Nat → Int} {i y : Nat} (hy : y < 2 ^ i) : b_sum f (i + 1) (2 ^ i + y) = b_sum f i y + f i := by
  rw [b_sum, (b_top hy).1, b_sum_congr i (b_top hy).2, if_pos rfl]
theorem b_low {i x : Nat} (hx : x < 2 ^ i) : x.testBit i = false := Nat.testBit_lt_two_pow hx
theorem b_cnt_low {i x : Nat} (hx : x < 2 ^ i) : b_cnt (i + 1) x = b_cnt i x := b_cnt_ge i (i + 1) hx (by omega)
theorem b_sum_low {f : Nat → Int} {i x : Nat} (hx : x < 2 ^ i) : b_sum f (i + 1) x = b_sum f i x := b_sum_ge i (i + 1) hx (by omega)
/-- a set says that it can be made -/
theorem b_mk_set {f : Nat → Int} {x : Nat} : ∀ i, b_mk f i (b_cnt i x) (b_sum f i x) = true
  | 0 => rfl
  | i + 1 => by
    have h := b_mk_set (f := f) (x := x) i
    rw [b_cnt, b_sum]
    by_cases e : x.testBit i = true
    · rw [if_pos e, if_pos e, b_mk, show b_sum f i x + f i - f i = b_sum f i x by omega, h, Bool.or_true]
    · rw [if_neg e, if_neg e, Nat.add_zero, Int.add_zero]
      cases hc : b_cnt i x with
      | zero => rw [b_mk, ← hc, h]
      | succ j => rw [b_mk, ← hc, h, Bool.true_or]
theorem b_mk_up {f : Nat → Int} {i j : Nat} {s : Int} (h : b_mk f i j s = true) : b_mk f (i + 1) j s = true := by
  cases j with
  | zero => rw [b_mk, h]
  | succ j => rw [b_mk, h, Bool.true_or]
theorem b_mk_in {f : Nat → Int} {i j : Nat} {s : Int} (h : b_mk f i j (s - f i) = true) : b_mk f (i + 1) (j + 1) s = true := by
  rw [b_mk, h, Bool.or_true]
theorem b_mk_or {f : Nat → Int} {i j : Nat} {s : Int} (h : b_mk f (i + 1) j s = true) : b_mk f i j s = true ∨ ∃ j', j = j' + 1 ∧ b_mk f i j' (s - f i) = true := by
  cases j with
  | zero => exact Or.inl (by rw [b_mk] at h; exact h)
  | succ j =>
    rw [b_mk, Bool.or_eq_true] at h
    rcases h with h | h
    · exact Or.inl h
    · exact Or.inr ⟨j, rfl, h⟩
theorem b_mk_le {f : Nat → Int} : ∀ i j s, b_mk f i j s = true → j ≤ i
  | 0, j, s, h => by
    simp [b_mk] at h
    omega
  | i + 1, j, s, h => by
    rcases b_mk_or h with h9 | ⟨j', rfl, h9⟩
    · have := b_mk_le i j s h9
      omega
    · have := b_mk_le i j' _ h9
      omega
theorem b_mk_0 {f : Nat → Int} : ∀ i s, b_mk f i 0 s = decide (s = 0)
  | 0, s => by simp [b_mk]
  | i + 1, s => by rw [b_mk, b_mk_0 i s]
/-- the sum of all -/
noncomputable def b_tot (f : Nat → Int) : Nat → Int
  | 0 => 0
  | i + 1 => b_tot f i + f i
theorem b_mk_tot {f : Nat → Int} (hf : ∀ q, 0 ≤ f q) : ∀ i j s, b_mk f i j s = true → 0 ≤ s ∧ s ≤ b_tot f i
  | 0, j, s, h => by
    simp [b_mk] at h
    rw [b_tot]
    omega
  | i + 1, j, s, h => by
    have h0 := hf i
    rw [b_tot]
    rcases b_mk_or h with h9 | ⟨j', rfl, h9⟩
    · have := b_mk_tot hf i j s h9
      omega
    · have := b_mk_tot hf i j' _ h9
      omega
theorem b_mk_all {f : Nat → Int} : ∀ i, b_mk f i i (b_tot f i) = true
  | 0 => rfl
  | i + 1 => b_mk_in (by rw [b_tot, show b_tot f i + f i - f i = b_tot f i by omega]; exact b_mk_all i)
/-- one of them can be left out -/
theorem b_mk_drop {f : Nat → Int} : ∀ i j s, b_mk f i (j + 1) s = true → ∃ q, q < i ∧ b_mk f i j (s - f q) = true
  | 0, j, s, h => by simp [b_mk] at h
  | i + 1, j, s, h => by
    rcases b_mk_or h with h9 | ⟨j', e, h9⟩
    · obtain ⟨q, q1, q2⟩ := b_mk_drop i j s h9
      exact ⟨q, by omega, b_mk_up q2⟩
    · have : j' = j := by omega
      subst this
      exact ⟨i, by omega, b_mk_up h9⟩
theorem b_pick_lt {f : Nat → Int} : ∀ i j s, b_pick f i j s < 2 ^ i
  | 0, _, _ => (by decide : (0 : Nat) < 2 ^ 0)
  | i + 1, j, s => by
    have h1 := b_pick_lt (f := f) i j s
    have h2 := b_pick_lt (f := f) i (j - 1) (s - f i)
    have h3 : 2 ^ (i + 1) = 2 ^ i + 2 ^ i := by rw [Nat.pow_succ]; omega
    rw [b_pick]
    split <;> omega
theorem b_pick_ok {f : Nat → Int} : ∀ i j s, b_mk f i j s = true → b_cnt i (b_pick f i j s) = j ∧ b_sum f i (b_pick f i j s) = s
  | 0, j, s, h => by
    simp [b_mk] at h
    simp [b_cnt, b_sum, h]
  | i + 1, j, s, h => by
    rw [b_pick]
    by_cases e : b_mk f i j s = true
    · rw [if_pos e, b_cnt_low (b_pick_lt i j s), b_sum_low (b_pick_lt i j s)]
      exact b_pick_ok i j s e
    · rw [if_neg e, b_cnt_top (b_pick_lt i _ _), b_sum_top (b_pick_lt i _ _)]
      rcases b_mk_or h with h9 | ⟨j', rfl, h9⟩
      · exact absurd h9 e
      · obtain ⟨h1, h2⟩ := b_pick_ok i j' _ h9
        rw [Nat.add_sub_cancel, h1, h2]
        exact ⟨rfl, by omega⟩
theorem b_pick_le {f : Nat → Int} : ∀ i x, x < 2 ^ i → b_pick f i (b_cnt i x) (b_sum f i x) ≤ x
  | 0, x, _ => Nat.zero_le _
  | i + 1, x, hx => by
    have h3 : 2 ^ (i + 1) = 2 ^ i + 2 ^ i := by rw [Nat.pow_succ]; omega
    rw [b_pick]
    by_cases hl : x < 2 ^ i
    · rw [b_cnt_low hl, b_sum_low hl, if_pos (b_mk_set i)]
      exact b_pick_le i x hl
    · obtain ⟨y, rfl⟩ : ∃ y, x = 2 ^ i + y := ⟨x - 2 ^ i, by omega⟩
      have hy : y < 2 ^ i := by omega
      rw [b_cnt_top hy, b_sum_top hy]
      split
      · have := b_pick_lt (f := f) i (b_cnt i y + 1) (b_sum f i y + f i)
        omega
      · rw [Nat.add_sub_cancel, show b_sum f i y + f i - f i = b_sum f i y by omega]
        have := b_pick_le (f := f) i y hy
        omega
/-! Numbers of bits. -/
theorem b_odd : ∀ x : Nat, 0 < x → ∃ k h, x = 2 ^ k * (2 * h + 1) := by
  intro x
  induction x using Nat.strongRecOn with
  | _ x ih =>
    intro hx
    by_cases e : x % 2 = 1
    · exact ⟨0, x / 2, by omega⟩
    · obtain ⟨k, h, hk⟩ := ih (x / 2) (by omega) (by omega)
      refine ⟨k + 1, h, ?_⟩
      rw [Nat.pow_succ, Nat.mul_right_comm, ← hk]
      omega
theorem b_bit {t a b : Nat} (hb : b < 2 ^ t) (i : Nat) : (2 ^ t * a + b).testBit i = if i < t then b.testBit i else a.testBit (i - t) := Nat.testBit_two_pow_mul_add a hb i
theorem b_cnt_split {t a b : Nat} (hb : b < 2 ^ t) : ∀ K, b_cnt (t + K) (2 ^ t * a + b) = b_cnt t b + b_cnt K a
  | 0 => by
    rw [Nat.add_zero, b_cnt_congr (y := b) t (fun q hq => by rw [b_bit hb, if_pos hq])]
    rfl
  | K + 1 => by
    rw [← Nat.add_assoc, b_cnt, b_cnt_split hb K, b_bit hb, if_neg (show ¬ t + K < t by omega), show t + K - t = K by omega, b_cnt]
    omega
theorem b_cnt_ones {m : Nat} : ∀ t, m ≤ t → b_cnt t (2 ^ m - 1) = m
  | 0, h => by
    have : m = 0 := by omega
    subst this
    rfl
  | t + 1, h => by
    by_cases e : m = t + 1
    · subst e
      have h1 : b_cnt t (2 ^ (t + 1) - 1) = b_cnt t (2 ^ t - 1) := b_cnt_congr t (fun q hq => by
        rw [Nat.testBit_two_pow_sub_one, Nat.testBit_two_pow_sub_one, decide_eq_true hq, decide_eq_true (by omega)])
      rw [b_cnt, h1, b_cnt_ones t (Nat.le_refl t), Nat.testBit_two_pow_sub_one, decide_eq_true (by omega), if_pos rfl]
    · rw [b_cnt, b_cnt_ones t (by omega), Nat.testBit_two_pow_sub_one, decide_eq_false (by omega)]
      rfl
theorem b_cnt_compl {t r : Nat} (hr : r < 2 ^ t) : ∀ i, i ≤ t → b_cnt i (2 ^ t - (r + 1)) + b_cnt i r = i
  | 0, _ => rfl
  | i + 1, h => by
    have ih := b_cnt_compl hr i (by omega)
    rw [b_cnt, b_cnt, Nat.testBit_two_pow_sub_succ hr, decide_eq_true (by omega), Bool.true_and]
    cases r.testBit i <;> simp <;> omega
theorem b_cnt_least {x : Nat} : ∀ t, x < 2 ^ t → 2 ^ b_cnt t x ≤ x + 1
  | 0, h => by simp [b_cnt]
  | t + 1, h => by
    have h3 : 2 ^ (t + 1) = 2 ^ t + 2 ^ t := by rw [Nat.pow_succ]; omega
    by_cases hl : x < 2 ^ t
    · rw [b_cnt_low hl]
      exact b_cnt_least t hl
    · obtain ⟨y, rfl⟩ : ∃ y, x = 2 ^ t + y := ⟨x - 2 ^ t, by omega⟩
      have hy : y < 2 ^ t := by omega
      have h1 := b_cnt_least t hy
      have h2 : 2 ^ b_cnt t y ≤ 2 ^ t := Nat.pow_le_pow_right (by omega) (b_cnt_le t)
      rw [b_cnt_top hy, Nat.pow_succ]
      omega
theorem b_2h1 (h : Nat) : ∀ j, (2 * h + 1).testBit (j + 1) = h.testBit j ∧ (2 * h).testBit (j + 1) = h.testBit j := fun j => by
  rw [Nat.testBit_succ, Nat.testBit_succ, show (2 * h + 1) / 2 = h by omega, show 2 * h / 2 = h by omega]
  exact ⟨rfl, rfl⟩
theorem b_2h0 (h : Nat) : (2 * h + 1).testBit 0 = true ∧ (2 * h).testBit 0 = false := by
  rw [Nat.testBit_zero, Nat.testBit_zero, show (2 * h + 1) % 2 = 1 by omega, show 2 * h % 2 = 0 by omega]
  exact ⟨rfl, rfl⟩
theorem b_cnt_odd {h : Nat} : ∀ K, b_cnt (K + 1) (2 * h + 1) = b_cnt (K + 1) (2 * h) + 1
  | 0 => by
    have e1 : b_cnt (0 + 1) (2 * h + 1) = b_cnt 0 (2 * h + 1) + (if (2 * h + 1).testBit 0 then 1 else 0) := rfl
    have e2 : b_cnt (0 + 1) (2 * h) = b_cnt 0 (2 * h) + (if (2 * h).testBit 0 then 1 else 0) := rfl
    rw [e1, e2, (b_2h0 h).1, (b_2h0 h).2]
    rfl
  | K + 1 => by
    have e1 : b_cnt (K + 1 + 1) (2 * h + 1) = b_cnt (K + 1) (2 * h + 1) + (if (2 * h + 1).testBit (K + 1) then 1 else 0) := rfl
    have e2 : b_cnt (K + 1 + 1) (2 * h) = b_cnt (K + 1) (2 * h) + (if (2 * h).testBit (K + 1) then 1 else 0) := rfl
    rw [e1, e2, b_cnt_odd K, (b_2h1 h K).1, (b_2h1 h K).2]
    omega
/-- the numbers of the next set: x is 2 ^ t * (2 * h + 1) less 2 ^ z -/
theorem b_next {t z h K : Nat} (hz : z < t) : b_cnt (t + (K + 1)) (2 ^ t * (2 * h + 1) + (2 ^ (t - 1 - z) - 1)) = b_cnt (t + (K + 1)) (2 ^ t * (2 * h + 1) - 2 ^ z) ∧
    ∀ y, 2 ^ t * (2 * h + 1) - 2 ^ z < y → y < 2 ^ t * (2 * h + 1) + (2 ^ (t - 1 - z) - 1) → b_cnt (t + (K + 1)) y ≠ b_cnt (t + (K + 1)) (2 ^ t * (2 * h + 1) - 2 ^ z) := by
  have p1 : 2 ^ z < 2 ^ t := Nat.pow_lt_pow_right (by omega) hz
  have p2 : 1 ≤ 2 ^ z := Nat.one_le_two_pow
  have p3 : 2 ^ (t - 1 - z) ≤ 2 ^ t := Nat.pow_le_pow_right (by omega) (by omega)
  have p4 : 1 ≤ 2 ^ (t - 1 - z) := Nat.one_le_two_pow
  have eM : 2 ^ t * (2 * h + 1) = 2 ^ t * (2 * h) + 2 ^ t := by rw [Nat.mul_add, Nat.mul_one]
  have eX : 2 ^ t * (2 * h + 1) - 2 ^ z = 2 ^ t * (2 * h) + (2 ^ t - 2 ^ z) := by omega
  have cz : b_cnt t (2 ^ t - 2 ^ z) = t - z := by
    have h1 := b_cnt_compl (t := t) (r := 2 ^ z - 1) (by omega) t (Nat.le_refl t)
    rw [b_cnt_ones t (by omega), show 2 ^ z - 1 + 1 = 2 ^ z by omega] at h1
    omega
  have cX : b_cnt (t + (K + 1)) (2 ^ t * (2 * h + 1) - 2 ^ z) = t - z + b_cnt (K + 1) (2 * h) := by
    rw [eX, b_cnt_split (a := 2 * h) (b := 2 ^ t - 2 ^ z) (by omega) (K + 1), cz]
  rw [cX]
  refine ⟨?_, fun y h1 h2 => ?_⟩
  · rw [b_cnt_split (a := 2 * h + 1) (b := 2 ^ (t - 1 - z) - 1) (by omega) (K + 1), b_cnt_ones t (by omega), b_cnt_odd]
    omega
  · by_cases e : y < 2 ^ t * (2 * h) + 2 ^ t
    · obtain ⟨r, rfl⟩ : ∃ r, y = 2 ^ t * (2 * h) + r := ⟨y - 2 ^ t * (2 * h), by omega⟩
      have hr : r < 2 ^ t := by omega
      have h3 := b_cnt_compl hr t (Nat.le_refl t)
      have h4 := b_cnt_least t (x := 2 ^ t - (r + 1)) (by omega)
      have h5 : b_cnt t (2 ^ t - (r + 1)) < z := (Nat.pow_lt_pow_iff_right (a := 2) (by omega)).mp (by omega)
      rw [b_cnt_split hr (K + 1)]
      omega
    · obtain ⟨r, rfl⟩ : ∃ r, y = 2 ^ t * (2 * h + 1) + r := ⟨y - 2 ^ t * (2 * h + 1), by omega⟩
      have hr : r < 2 ^ (t - 1 - z) - 1 := by omega
      have h4 := b_cnt_least t (x := r) (by omega)
      have h5 : b_cnt t r < t - 1 - z := (Nat.pow_lt_pow_iff_right (a := 2) (by omega)).mp (by omega)
      rw [b_cnt_split (a := 2 * h + 1) (b := r) (by omega) (K + 1), b_cnt_odd]
      omega
/-! The lowest bit, by the machine's words. -/
theorem b_wbit {k h : Nat} (i : Nat) : (2 ^ k * (2 * h + 1)).testBit i = if i < k then false else (2 * h + 1).testBit (i - k) := by
  have := b_bit (t := k) (a := 2 * h + 1) (b := 0) (Nat.two_pow_pos k) i
  rw [Nat.add_zero, Nat.zero_testBit] at this
  exact this
theorem b_vbit {k h : Nat} (i : Nat) : (2 ^ k * (2 * h + 1) - 1).testBit i = if i < k then true else (2 * h).testBit (i - k) := by
  have p2 : 1 ≤ 2 ^ k := Nat.one_le_two_pow
  have e : 2 ^ k * (2 * h + 1) - 1 = 2 ^ k * (2 * h) + (2 ^ k - 1) := by
    rw [Nat.mul_add, Nat.mul_one]
    omega
  rw [e, b_bit (by omega)]
  by_cases q : i < k
  · rw [if_pos q, if_pos q, Nat.testBit_two_pow_sub_one, decide_eq_true q]
  · rw [if_neg q, if_neg q]
theorem b_1bit {k : Nat} (i : Nat) : (2 ^ k).testBit i = decide (k = i) := Nat.testBit_two_pow
theorem b_and1 {k h : Nat} : (2 ^ k * (2 * h + 1)) &&& (2 ^ k * (2 * h + 1) - 1) = 2 ^ k * (2 * h) := by
  refine Nat.eq_of_testBit_eq (fun i => ?_)
  have e0 := b_bit (t := k) (a := 2 * h) (b := 0) (Nat.two_pow_pos k) i
  rw [Nat.add_zero, Nat.zero_testBit] at e0
  rw [Nat.testBit_and, b_wbit, b_vbit, e0]
  by_cases q : i < k
  · rw [if_pos q, if_pos q, if_pos q]
    rfl
  · rw [if_neg q, if_neg q, if_neg q]
    cases hj : i - k with
    | zero => rw [(b_2h0 h).1, (b_2h0 h).2]; rfl
    | succ j => rw [(b_2h1 h j).1, (b_2h1 h j).2, Bool.and_self]
theorem b_andN {k h : Nat} (hw : 2 ^ k * (2 * h + 1) < 4294967296) : (2 ^ k * (2 * h + 1)) &&& (4294967296 - 2 ^ k * (2 * h + 1)) = 2 ^ k := by
  have p2 : 1 ≤ 2 ^ k := Nat.one_le_two_pow
  have p3 : 2 ^ k * 1 ≤ 2 ^ k * (2 * h + 1) := Nat.mul_le_mul_left _ (by omega)
  have hk : k < 32 := (Nat.pow_lt_pow_iff_right (a := 2) (by omega)).mp (by omega)
  refine Nat.eq_of_testBit_eq (fun i => ?_)
  have e1 := Nat.testBit_two_pow_sub_succ (n := 32) (x := 2 ^ k * (2 * h + 1) - 1) (by omega) i
  rw [show 2 ^ 32 - (2 ^ k * (2 * h + 1) - 1 + 1) = 4294967296 - 2 ^ k * (2 * h + 1) by omega] at e1
  rw [Nat.testBit_and, e1, b_wbit, b_vbit, b_1bit]
  by_cases q : i < k
  · rw [if_pos q, decide_eq_false (show ¬ k = i by omega)]
    rfl
  · rw [if_neg q, if_neg q]
    cases hj : i - k with
    | zero =>
      rw [(b_2h0 h).1, (b_2h0 h).2, decide_eq_true (by omega : i < 32), decide_eq_true (by omega : k = i)]
      rfl
    | succ j =>
      rw [(b_2h1 h j).1, (b_2h1 h j).2, decide_eq_false (by omega : ¬ k = i)]
      cases h.testBit j <;> simp
theorem b_andC {k h : Nat} (hk : k < 32) : ((2 ^ k * (2 * h + 1)) ^^^ 4294967295) &&& (2 ^ k * (2 * h + 1) - 1) < 2 ^ 32 → ((2 ^ k * (2 * h + 1)) ^^^ 4294967295) &&& (2 ^ k * (2 * h + 1) - 1) = 2 ^ k - 1 := by
  intro hlt
  refine Nat.eq_of_testBit_eq (fun i => ?_)
  by_cases h32 : i < 32
  · have e1 := Nat.testBit_two_pow_sub_one 32 i
    rw [show 2 ^ 32 - 1 = 4294967295 from rfl, decide_eq_true h32] at e1
    rw [Nat.testBit_and, Nat.testBit_xor, e1, b_wbit, b_vbit, Nat.testBit_two_pow_sub_one]
    by_cases q : i < k
    · rw [if_pos q, if_pos q, decide_eq_true q]
      rfl
    · rw [if_neg q, if_neg q, decide_eq_false q]
      cases hj : i - k with
      | zero => rw [(b_2h0 h).1, (b_2h0 h).2]; rfl
      | succ j =>
        rw [(b_2h1 h j).1, (b_2h1 h j).2]
        cases h.testBit j <;> rfl
  · rw [Nat.testBit_lt_two_pow (Nat.lt_of_lt_of_le hlt (Nat.pow_le_pow_right (by omega) (by omega))), Nat.testBit_two_pow_sub_one, decide_eq_false (by omega)]
theorem z_xorN {a b : Nat} (ha : a < 2147483648) (hb : b < 2147483648) : z_xor (a : Int) (b : Int) = ((a ^^^ b : Nat) : Int) := by
  unfold z_xor
  have e1 : (Int32.ofInt (a : Int) ^^^ Int32.ofInt (b : Int)).toBitVec.toNat = a ^^^ b := by
    rw [Int32.toBitVec_xor, BitVec.toNat_xor, zn_nat (by omega), zn_nat (by omega)]
  have e3 : a ^^^ b < 2 ^ 31 := Nat.xor_lt_two_pow (by omega) (by omega)
  have e2 := s_ofnat (z := (Int32.ofInt (a : Int) ^^^ Int32.ofInt (b : Int))) (by omega)
  omega
theorem z_lowbit {k h : Nat} (hw : 2 ^ k * (2 * h + 1) < 2147483648) : z_and ((2 ^ k * (2 * h + 1) : Nat) : Int) (-((2 ^ k * (2 * h + 1) : Nat) : Int)) = ((2 ^ k : Nat) : Int) := by
  have p2 : 1 ≤ 2 ^ k := Nat.one_le_two_pow
  have p3 : 2 ^ k * 1 ≤ 2 ^ k * (2 * h + 1) := Nat.mul_le_mul_left _ (by omega)
  have key := b_andN (k := k) (h := h) (by omega)
  generalize 2 ^ k * (2 * h + 1) = w at hw p3 key ⊢
  unfold z_and
  have e0 : (Int32.ofInt (-(w : Int))).toBitVec.toNat = 4294967296 - w := by
    have := z_natS (-(w : Int))
    omega
  have e1 : (Int32.ofInt (w : Int) &&& Int32.ofInt (-(w : Int))).toBitVec.toNat = 2 ^ k := by
    rw [Int32.toBitVec_and, BitVec.toNat_and, zn_nat (by omega), e0, key]
  have e2 := s_ofnat (z := (Int32.ofInt (w : Int) &&& Int32.ofInt (-(w : Int)))) (by omega)
  omega
theorem z_ntzv {k h : Nat} (hw : 2 ^ k * (2 * h + 1) < 2147483648) : z_and (z_xor ((2 ^ k * (2 * h + 1) : Nat) : Int) (-1)) (((2 ^ k * (2 * h + 1) : Nat) : Int) - 1) = ((2 ^ k - 1 : Nat) : Int) := by
  have p2 : 1 ≤ 2 ^ k := Nat.one_le_two_pow
  have p3 : 2 ^ k * 1 ≤ 2 ^ k * (2 * h + 1) := Nat.mul_le_mul_left _ (by omega)
  have hk : k < 31 := (Nat.pow_lt_pow_iff_right (a := 2) (by omega)).mp (by omega)
  have key := b_andC (k := k) (h := h) (by omega)
  generalize 2 ^ k * (2 * h + 1) = w at hw p3 key ⊢
  have key2 := key (Nat.lt_of_le_of_lt Nat.and_le_right (by omega))
  unfold z_and z_xor
  rw [z_ofN]
  have e0 : (Int32.ofInt ((w : Int) - 1)).toBitVec.toNat = w - 1 := by
    have := z_natS ((w : Int) - 1)
    omega
  have e9 : (Int32.ofInt (-1)).toBitVec.toNat = 4294967295 := by decide +kernel
  have e1 : ((Int32.ofInt (w : Int) ^^^ Int32.ofInt (-1)) &&& Int32.ofInt ((w : Int) - 1)).toBitVec.toNat = 2 ^ k - 1 := by
    rw [Int32.toBitVec_and, BitVec.toNat_and, Int32.toBitVec_xor, BitVec.toNat_xor, zn_nat (by omega), e0, e9, key2]
  have e2 := s_ofnat (z := ((Int32.ofInt (w : Int) ^^^ Int32.ofInt (-1)) &&& Int32.ofInt ((w : Int) - 1))) (by omega)
  omega
theorem z_clear {k h : Nat} (hw : 2 ^ k * (2 * h + 1) < 2147483648) : z_and ((2 ^ k * (2 * h + 1) : Nat) : Int) (((2 ^ k * (2 * h + 1) : Nat) : Int) - 1) = ((2 ^ k * (2 * h) : Nat) : Int) := by
  have p2 : 1 ≤ 2 ^ k := Nat.one_le_two_pow
  have p3 : 2 ^ k * 1 ≤ 2 ^ k * (2 * h + 1) := Nat.mul_le_mul_left _ (by omega)
  have key := b_and1 (k := k) (h := h)
  generalize 2 ^ k * (2 * h + 1) = w at hw p3 key ⊢
  rw [show (w : Int) - 1 = ((w - 1 : Nat) : Int) by omega, z_andN hw (by omega), key]
/-- without its lowest bit -/
theorem b_clear_sum {f : Nat → Int} {k h : Nat} : ∀ N, b_sum f N (2 ^ k * (2 * h + 1)) = b_sum f N (2 ^ k * (2 * h)) + (if k < N then f k else 0)
  | 0 => rfl
  | N + 1 => by
    have e0 := b_bit (t := k) (a := 2 * h) (b := 0) (Nat.two_pow_pos k) N
    rw [Nat.add_zero, Nat.zero_testBit] at e0
    rw [b_sum, b_sum, b_clear_sum N, b_wbit, e0]
    by_cases q : N < k
    · rw [if_pos q, if_pos q, if_neg (show ¬ k < N by omega), if_neg (show ¬ k < N + 1 by omega)]
      simp
    · rw [if_neg q, if_neg q]
      cases hj : N - k with
      | zero =>
        have : N = k := by omega
        subst this
        rw [(b_2h0 h).1, (b_2h0 h).2, if_neg (show ¬ N < N by omega), if_pos (show N < N + 1 by omega)]
        simp
      | succ j =>
        rw [(b_2h1 h j).1, (b_2h1 h j).2, if_pos (show k < N by omega), if_pos (show k < N + 1 by omega)]
        split <;> omega
theorem b_sum_0 {f : Nat → Int} : ∀ N, b_sum f N 0 = 0
  | 0 => rfl
  | N + 1 => by
    rw [b_sum, b_sum_0 N, Nat.zero_testBit]
    rfl
/-- the next set by the machine's words -/
theorem z_gos {x : Nat} (h0 : 0 < x) (hx : x < 1048576) : ¬ z_and (x : Int) (-(x : Int)) = 0 ∧ ∃ n1 : Nat, z_or ((x : Int) + z_and (x : Int) (-(x : Int))) (z_shr (Int.tdiv (z_xor (x : Int) ((x : Int) + z_and (x : Int) (-(x : Int)))) (z_and (x : Int) (-(x : Int)))) 2) = (n1 : Int) ∧ x < n1 ∧ n1 ≤ 2 * x ∧ b_cnt 22 n1 = b_cnt 22 x ∧ ∀ y, x < y → y < n1 → b_cnt 22 y ≠ b_cnt 22 x := by
  obtain ⟨z, h', hz⟩ := b_odd x h0
  have q1 : 1 ≤ 2 ^ z := Nat.one_le_two_pow
  have q2 : 2 ^ z * 1 ≤ 2 ^ z * (2 * h' + 1) := Nat.mul_le_mul_left _ (by omega)
  have el : z_and (x : Int) (-(x : Int)) = ((2 ^ z : Nat) : Int) := by
    rw [hz]
    exact z_lowbit (by omega)
  rw [el]
  refine ⟨by omega, ?_⟩
  obtain ⟨t, h, ht⟩ := b_odd (x + 2 ^ z) (by omega)
  have p1 : 1 ≤ 2 ^ t := Nat.one_le_two_pow
  have p2 : 2 ^ t * 1 ≤ 2 ^ t * (2 * h + 1) := Nat.mul_le_mul_left _ (by omega)
  have t20 : t < 21 := (Nat.pow_lt_pow_iff_right (a := 2) (by omega)).mp (by omega)
  have hzt : z < t := by
    rcases Nat.lt_or_ge z t with q | q
    · exact q
    · exfalso
      have e1 : x + 2 ^ z = 2 ^ t * (2 ^ (z - t) * (2 * (h' + 1))) := by
        rw [← Nat.mul_assoc, ← Nat.pow_add, show t + (z - t) = z by omega, hz]
        rw [show 2 * (h' + 1) = 2 * h' + 1 + 1 by omega, Nat.mul_add (2 ^ z) (2 * h' + 1) 1, Nat.mul_one]
      have e2 := Nat.eq_of_mul_eq_mul_left (by omega) (ht.symm.trans e1)
      rw [Nat.mul_left_comm] at e2
      omega
  obtain ⟨w, hw⟩ : ∃ w, t = z + 1 + w := ⟨t - z - 1, by omega⟩
  have et : 2 ^ t = 2 * (2 ^ z * 2 ^ w) := by
    rw [hw, Nat.pow_add, Nat.pow_succ]
    rw [Nat.mul_comm (2 ^ z) 2, Nat.mul_assoc]
  have ew : t - 1 - z = w := by omega
  have q3 : 1 ≤ 2 ^ w := Nat.one_le_two_pow
  have eM : 2 ^ t * (2 * h + 1) = 2 ^ t * (2 * h) + 2 ^ t := by rw [Nat.mul_add, Nat.mul_one]
  have hzt2 : 2 ^ z < 2 ^ t := Nat.pow_lt_pow_right (by omega) hzt
  have hsum : 2 ^ z + 2 ^ w ≤ 2 ^ z * 2 ^ w + 1 := by
    obtain ⟨a, ha⟩ : ∃ a, 2 ^ z = a + 1 := ⟨2 ^ z - 1, by omega⟩
    obtain ⟨b, hb⟩ : ∃ b, 2 ^ w = b + 1 := ⟨2 ^ w - 1, by omega⟩
    rw [ha, hb, Nat.add_mul, Nat.mul_add]
    have := Nat.zero_le (a * b)
    omega
  have exor : x ^^^ (x + 2 ^ z) = 2 ^ z * (4 * 2 ^ w - 1) := by
    have e1 : x = 2 ^ t * (2 * h) + (2 ^ t - 2 ^ z) := by omega
    have e2 : 2 ^ z * (4 * 2 ^ w - 1) = 2 ^ t * 1 + (2 ^ t - 2 ^ z) := by
      rw [Nat.mul_sub, Nat.mul_left_comm, Nat.mul_one]
      omega
    refine Nat.eq_of_testBit_eq (fun i => ?_)
    have c1 : x.testBit i = if i < t then (2 ^ t - 2 ^ z).testBit i else (2 * h).testBit (i - t) := by
      rw [e1]
      exact b_bit (by omega) i
    have c3 : (2 ^ t * 1 + (2 ^ t - 2 ^ z)).testBit i = if i < t then (2 ^ t - 2 ^ z).testBit i else (1 : Nat).testBit (i - t) := b_bit (by omega) i
    rw [Nat.testBit_xor, ht, b_wbit, c1, e2, c3]
    by_cases q : i < t
    · rw [if_pos q, if_pos q, if_pos q, Bool.xor_false]
    · rw [if_neg q, if_neg q, if_neg q]
      have b1 := b_2h0 0
      have b2 := b_2h1 0
      cases hj : i - t with
      | zero =>
        rw [(b_2h0 h).1, (b_2h0 h).2, b1.1]
        rfl
      | succ j =>
        rw [(b_2h1 h j).1, (b_2h1 h j).2, (b2 j).1, Nat.zero_testBit, Bool.xor_self]
  have b22 : 2 ^ z * (4 * 2 ^ w - 1) < 2147483648 := by
    rw [← exor]
    exact Nat.lt_of_lt_of_le (Nat.xor_lt_two_pow (n := 22) (by omega) (by omega)) (by decide)
  have ed : 2 ^ z * (4 * 2 ^ w - 1) / 2 ^ z = 4 * 2 ^ w - 1 := Nat.mul_div_cancel_left _ (by omega)
  have p21 : 2 ^ w < 2 ^ 21 := Nat.pow_lt_pow_right (by omega) (by omega)
  refine ⟨2 ^ t * (2 * h + 1) + (2 ^ w - 1), ?_, by omega, by omega, ?_⟩
  · rw [show (x : Int) + ((2 ^ z : Nat) : Int) = ((x + 2 ^ z : Nat) : Int) from rfl, z_xorN (by omega) (by omega), exor]
    rw [show Int.tdiv ((2 ^ z * (4 * 2 ^ w - 1) : Nat) : Int) ((2 ^ z : Nat) : Int) = ((2 ^ z * (4 * 2 ^ w - 1) / 2 ^ z : Nat) : Int) from rfl, ed]
    have e5 : z_shr ((4 * 2 ^ w - 1 : Nat) : Int) 2 = ((2 ^ w - 1 : Nat) : Int) := by
      rw [show (2 : Int) = ((2 : Nat) : Int) from rfl, z_shrE _ (by omega), wr_id (by omega) (by omega)]
      generalize 2 ^ w = Q at q3 ⊢
      omega
    rw [e5, z_orN (by omega) (by omega), ht]
    rw [Nat.two_pow_add_eq_or_of_lt (i := t) (b := 2 ^ w - 1) (by omega) (2 * h + 1)]
  · have := b_next (t := t) (z := z) (h := h) (K := 21 - t) hzt
    rw [ew, show t + (21 - t + 1) = 22 by omega, ← ht, show x + 2 ^ z - 2 ^ z = x by omega, ht] at this
    exact this
end
-- 9s.fewest.lean.txt
section
/-! The fewest pieces, and the least set of those that sum to the least: by the reference. -/
noncomputable def b_pre (g : Nat → Int) : Nat → Int
  | 0 => 0
  | k + 1 => b_pre g k + g k
theorem b_pre_congr {g h : Nat → Int} : ∀ k, (∀ q, q < k → g q = h q) → b_pre g k = b_pre h k
  | 0, _ => rfl
  | k + 1, e => by rw [b_pre, b_pre, b_pre_congr k (fun q hq => e q (by omega)), e k (by omega)]
/-- sorted: the first k are the most that k of the first i sum to -/
noncomputable def b_srt (f g : Nat → Int) (i : Nat) : Prop := (∀ q, q < i → 0 ≤ g q ∧ g q ≤ 108) ∧ (∀ q, q + 1 < i → g (q + 1) ≤ g q) ∧ (∀ k, k ≤ i → b_mk f i k (b_pre g k) = true) ∧ ∀ j s, b_mk f i j s = true → s ≤ b_pre g j
theorem b_srt_dn {g : Nat → Int} {i : Nat} (h : ∀ q, q + 1 < i → g (q + 1) ≤ g q) : ∀ b a, a ≤ b → b < i → g b ≤ g a
  | 0, a, h1, _ => by
    have : a = 0 := by omega
    subst this
    exact Int.le_refl _
  | b + 1, a, h1, h2 => by
    by_cases e : a = b + 1
    · subst e
      exact Int.le_refl _
    · exact Int.le_trans (h b h2) (b_srt_dn h b a (by omega) (by omega))
theorem b_srt_in {f g g' : Nat → Int} {i q : Nat} (h : b_srt f g i) (hf : 0 ≤ f i ∧ f i ≤ 108) (hq : q ≤ i) (h1 : ∀ k, k < q → g' k = g k) (h2 : g' q = f i) (h3 : ∀ k, q ≤ k → k < i → g' (k + 1) = g k) (h4 : ∀ k, q ≤ k → k < i → g k < f i) (h5 : ∀ k, k < q → f i ≤ g k) : b_srt f g' (i + 1) := by
  obtain ⟨s0, s1, s2, s3⟩ := h
  have pA : ∀ k, k ≤ q → b_pre g' k = b_pre g k := fun k hk => b_pre_congr k (fun x hx => h1 x (by omega))
  have pB : ∀ d, q + d ≤ i → b_pre g' (q + d + 1) = b_pre g (q + d) + f i := by
    intro d
    induction d with
    | zero =>
      intro _
      simp only [Nat.add_zero]
      rw [b_pre, pA q (Nat.le_refl q), h2]
    | succ d ih =>
      intro hd
      rw [show q + (d + 1) + 1 = (q + d + 1) + 1 by omega, b_pre, ih (by omega), h3 (q + d) (by omega) (by omega), show q + (d + 1) = q + d + 1 by omega, b_pre]
      omega
  have pC : ∀ k, q ≤ k → k ≤ i → b_pre g' (k + 1) = b_pre g k + f i := fun k k1 k2 => by
    have := pB (k - q) (by omega)
    rwa [show q + (k - q) = k by omega] at this
  refine ⟨fun k hk => ?_, fun k hk => ?_, fun k hk => ?_, fun j s hs => ?_⟩
  · by_cases e1 : k < q
    · rw [h1 k e1]
      exact s0 k (by omega)
    · by_cases e2 : k = q
      · rw [e2, h2]
        exact hf
      · have := h3 (k - 1) (by omega) (by omega)
        rw [show k - 1 + 1 = k by omega] at this
        rw [this]
        exact s0 (k - 1) (by omega)
  · by_cases e1 : k + 1 < q
    · rw [h1 k (by omega), h1 (k + 1) e1]
      exact s1 k (by omega)
    · by_cases e2 : k + 1 = q
      · rw [e2, h2, h1 k (by omega)]
        exact h5 k (by omega)
      · by_cases e3 : k = q
        · rw [e3, h2, h3 q (Nat.le_refl q) (by omega)]
          exact Int.le_of_lt (h4 q (Nat.le_refl q) (by omega))
        · have := h3 (k - 1) (by omega) (by omega)
          rw [show k - 1 + 1 = k by omega] at this
          rw [this, h3 k (by omega) (by omega)]
          have := s1 (k - 1) (by omega)
          rw [show k - 1 + 1 = k by omega] at this
          exact this
  · by_cases e1 : k ≤ q
    · rw [pA k e1]
      exact b_mk_up (s2 k (by omega))
    · obtain ⟨c, rfl⟩ : ∃ c, k = c + 1 := ⟨k - 1, by omega⟩
      rw [pC c (by omega) (by omega)]
      refine b_mk_in ?_
      rw [show b_pre g c + f i - f i = b_pre g c by omega]
      exact s2 c (by omega)
  · rcases b_mk_or hs with h9 | ⟨c, rfl, h9⟩
    · have hj := b_mk_le i j s h9
      have h6 := s3 j s h9
      by_cases e1 : j ≤ q
      · rw [pA j e1]
        exact h6
      · obtain ⟨c, rfl⟩ : ∃ c, j = c + 1 := ⟨j - 1, by omega⟩
        rw [pC c (by omega) (by omega)]
        have := h4 c (by omega) (by omega)
        rw [b_pre] at h6
        omega
    · have hj := b_mk_le i c _ h9
      have h6 := s3 c _ h9
      by_cases e1 : q ≤ c
      · rw [pC c e1 hj]
        omega
      · rw [pA (c + 1) (by omega), b_pre]
        have := h5 c (by omega)
        omega
/-- so many are the fewest that sum to v or more -/
noncomputable def b_few (f : Nat → Int) (n : Nat) (v : Int) (w : Nat) : Prop := (1 ≤ w ∧ w ≤ n) ∧ (∃ s, v ≤ s ∧ b_mk f n w s = true) ∧ ∀ j s, j < w → b_mk f n j s = true → s < v
noncomputable def b_non (f : Nat → Int) (n : Nat) (v : Int) : Prop := ∀ j s, b_mk f n j s = true → s < v
/-- the piece's inches -/
noncomputable abbrev b_pc (m : zM) : Nat → Int := fun q => m 75 (q + 36)
section ZFewest
variable {T : Nat → Nat → zG → (Option zA → zM → Prop) → Prop}
theorem z_fewest (hT : zRules T) {D : Nat} {κ : Option zA → zM → Prop} {m : zM} {n v : Nat} (hB : zB m) (hn : m 75 56 = (n : Int)) (hv : v ≤ 999) (hv1 : 1 ≤ v)
    (h0 : ∀ M, zB M → zFr (inL [(90, none)]) m M → b_non (b_pc m) n v → κ (some (zi (-2))) M)
    (h1 : ∀ w M, zB M → zFr (inL [(90, none)]) m M → b_few (b_pc m) n v w → κ (some (zi (w : Int))) M) : T (D + 1) 245 (0, [(0, zr 74), (1, zi (v : Int))], [], m) κ := by
  have b56 : 0 ≤ m 75 56 ∧ m 75 56 ≤ 20 := hB 75 56
  have n20 : n ≤ 20 := by omega
  have hp : ∀ q, q < 20 → 0 ≤ m 75 (q + 36) ∧ m 75 (q + 36) ≤ 108 := fun q hq => zSg hB 75 36 56 0 108 rfl (q + 36) (by omega) (by omega)
  have third : ∀ (j k : Nat) (M : zM), k + j = n → zB M → zFr (inL [(90, none)]) m M → b_srt (b_pc m) (M 90) n → (0 ≤ b_pre (M 90) k ∧ b_pre (M 90) k ≤ 108 * k) → (∀ q, q ≤ k → b_pre (M 90) q < v) → T (D + 1) 245 (93, [(0, zr 74), (1, zi (v : Int)), (2, zi (n : Int)), (3, zi (b_pre (M 90) k)), (4, zi (k : Int))], [], M) κ := by
    intro j
    induction j with
    | zero =>
      intro k M hk hBM hF hs hb hq
      obtain ⟨s, hs2⟩ : ∃ s : Nat, b_pre (M 90) k = (s : Int) := ⟨(b_pre (M 90) k).toNat, by omega⟩
      rw [hs2]
      refine zb245_93 hT rfl hBM hv n20 (by omega) (by omega) (fun _ => h0 M hBM hF (fun j s hj => ?_)) (fun q => by omega) (fun q => by omega)
      have h2 := b_mk_le n j s hj
      have h3 := hs.2.2.2 j s hj
      have h4 := hq j (by omega)
      omega
    | succ j ih =>
      intro k M hk hBM hF hs hb hq
      obtain ⟨s, hs2⟩ : ∃ s : Nat, b_pre (M 90) k = (s : Int) := ⟨(b_pre (M 90) k).toNat, by omega⟩
      have bg := hs.1 k (by omega)
      have e1 : b_pre (M 90) (k + 1) = (s : Int) + M 90 k := by rw [b_pre, hs2]
      have ew : wr ((s : Int) + M 90 k) = (s : Int) + M 90 k := wr_id (by omega) (by omega)
      rw [hs2]
      refine zb245_93 hT rfl hBM hv n20 (by omega) (by omega) (fun q => by omega) (fun _ q => ?_) (fun _ q => ?_)
      · rw [ew] at q
        have := ih (k + 1) M (by omega) hBM hF hs (by omega) (fun x hx => by
          by_cases e : x = k + 1
          · rw [e]
            omega
          · exact hq x (by omega))
        rw [e1] at this
        exact this
      · rw [ew] at q
        have := h1 (k + 1) M hBM hF ⟨by omega, ⟨b_pre (M 90) (k + 1), by omega, hs.2.2.1 (k + 1) (by omega)⟩, fun x s2 hx hx2 => ?_⟩
        · exact this
        · have h3 := hs.2.2.2 x s2 hx2
          have h4 := hq x (by omega)
          omega
  have inner : ∀ (k i : Nat) (M0 M : zM), (∀ M2, zB M2 → zFr (inL [(90, none)]) m M2 → b_srt (b_pc m) (M2 90) (i + 1) → T (D + 1) 245 (10, [(0, zr 74), (1, zi (v : Int)), (2, zi (n : Int)), (3, zi ((i : Int) + 1))], [], M2) κ) → i < n → k ≤ i → b_srt (b_pc m) (M0 90) i → zB M → zFr (inL [(90, none)]) m M → (∀ x, x < k → M 90 x = M0 90 x) → (∀ x, k ≤ x → x < i → M 90 (x + 1) = M0 90 x) → (∀ x, k ≤ x → x < i → M0 90 x < m 75 (i + 36)) →
      T (D + 1) 245 (18, [(0, zr 74), (1, zi (v : Int)), (2, zi (n : Int)), (3, zi (i : Int)), (4, zi (k : Int))], [], M) κ := by
    intro k
    induction k with
    | zero =>
      intro i M0 M out hi hk hs hBM hF g1 g2 g3
      have e75 : M 75 (i + 36) = m 75 (i + 36) := hF 75 (i + 36) rfl
      refine zb245_18 hT rfl hBM hv n20 (by omega) (by omega) (fun _ hz => out _ hz (hF.set rfl) ?_) (fun q => by omega) (fun q => by omega)
      refine b_srt_in (q := 0) hs (hp i (by omega)) (by omega) (fun x hx => by omega) (by rw [zu_sm rfl, e75]) (fun x h1 h2 => by rw [zu_off (by omega), g2 x h1 h2]) g3 (fun x hx => by omega)
    | succ k ih =>
      intro i M0 M out hi hk hs hBM hF g1 g2 g3
      have e75 : M 75 (i + 36) = m 75 (i + 36) := hF 75 (i + 36) rfl
      have ek : (((k + 1 : Nat) : Int) - 1).toNat = k := by omega
      have bg := hs.1 k (by omega)
      have gk := g1 k (by omega)
      have ew : wr (M 90 k) = M0 90 k := by rw [gk]; exact wr_id (by omega) (by omega)
      refine zb245_18 hT rfl hBM hv n20 (by omega) (by omega) (fun q => by omega) (fun _ q hz => out _ hz (hF.set rfl) ?_) (fun _ q hz => ?_)
      · rw [ek, ew, e75] at q
        refine b_srt_in (q := k + 1) hs (hp i (by omega)) (by omega) (fun x hx => by rw [zu_off (by omega), g1 x hx]) (by rw [zu_sm rfl, e75]) (fun x h1 h2 => by rw [zu_off (by omega), g2 x h1 h2]) g3 (fun x hx => ?_)
        have := b_srt_dn hs.2.1 k x (by omega) (by omega)
        show m 75 (i + 36) ≤ M0 90 x
        omega
      · rw [ek, ew, e75] at q
        rw [ek] at hz ⊢
        have := ih i M0 _ out hi (by omega) hs hz (hF.set rfl) (fun x hx => by rw [zu_off (by omega), g1 x (by omega)]) (fun x h1 h2 => ?_) (fun x h1 h2 => ?_)
        · rw [show ((k + 1 : Nat) : Int) + -1 = (k : Int) by omega]
          exact this
        · by_cases e : x = k
          · rw [e, zu_sm rfl, gk]
          · rw [zu_off (by omega), g2 x (by omega) h2]
        · by_cases e : x = k
          · rw [e]
            exact q
          · exact g3 x (by omega) h2
  have outer : ∀ (j i : Nat) (M : zM), i + j = n → zB M → zFr (inL [(90, none)]) m M → b_srt (b_pc m) (M 90) i → T (D + 1) 245 (10, [(0, zr 74), (1, zi (v : Int)), (2, zi (n : Int)), (3, zi (i : Int))], [], M) κ := by
    intro j
    induction j with
    | zero =>
      intro i M hi hBM hF hs
      have : i = n := by omega
      subst this
      refine zb245_10 hT rfl hBM hv n20 n20 (fun _ => ?_) (fun q => by omega)
      exact third i 0 M (by omega) hBM hF hs ⟨Int.le_refl _, Int.le_refl _⟩ (fun q hq => by
        have : q = 0 := by omega
        subst this
        show (0 : Int) < v
        omega)
    | succ j ih =>
      intro i M hi hBM hF hs
      refine zb245_10 hT rfl hBM hv n20 (by omega) (fun q => by omega) (fun _ => ?_)
      exact inner i i M M (fun M2 hB2 hF2 hs2 => ih (i + 1) M2 (by omega) hB2 hF2 hs2) (by omega) (Nat.le_refl i) hs hBM hF (fun _ _ => rfl) (fun x h1 h2 => by omega) (fun x h1 h2 => by omega)
  refine zb245_0 hT hB hv ?_
  rw [hn]
  refine outer n 0 m (by omega) hB zFr.refl ⟨fun q hq => by omega, fun q hq => by omega, fun k hk => ?_, fun j s hs => ?_⟩
  · have : k = 0 := by omega
    subst this
    rfl
  · simp [b_mk] at hs
    rw [hs.1, hs.2]
    exact Int.le_refl _
end ZFewest
theorem b_sum_b {f : Nat → Int} {x : Nat} : ∀ N, (∀ q, q < N → 0 ≤ f q ∧ f q ≤ 108) → 0 ≤ b_sum f N x ∧ b_sum f N x ≤ 108 * N
  | 0, _ => ⟨Int.le_refl _, Int.le_refl _⟩
  | N + 1, h => by
    have h1 := b_sum_b (f := f) (x := x) N (fun q hq => h q (by omega))
    have h2 := h N (by omega)
    rw [b_sum]
    split <;> omega
/-- P is the first of the best sets of w with v or more -/
noncomputable def b_best (f : Nat → Int) (n : Nat) (v : Int) (w P : Nat) : Prop := (P < 2 ^ n ∧ b_cnt n P = w) ∧ v ≤ b_sum f n P ∧ ∀ y, y < 2 ^ n → b_cnt n y = w → v ≤ b_sum f n y → b_sum f n P < b_sum f n y ∨ (b_sum f n P = b_sum f n y ∧ P ≤ y)
/-- the best of the sets below x, if there is one: its number and what it is more -/
noncomputable def b_run (f : Nat → Int) (n v w x : Nat) (p q : Int) : Prop := (p = 0 ∧ ∀ y, y < x → b_cnt 22 y = w → b_sum f 20 y < v) ∨ ∃ P : Nat, p = (P : Int) ∧ 0 < P ∧ P < 2 ^ n ∧ b_cnt 22 P = w ∧ (v : Int) ≤ b_sum f 20 P ∧ q = b_sum f 20 P - v ∧ P < x ∧ ∀ y, y < x → b_cnt 22 y = w → (v : Int) ≤ b_sum f 20 y → b_sum f 20 P < b_sum f 20 y ∨ (b_sum f 20 P = b_sum f 20 y ∧ P ≤ y)
section ZFindP
variable {T : Nat → Nat → zG → (Option zA → zM → Prop) → Prop}
theorem k_eq {κ : Option zA → zM → Prop} {m : zM} {a b : Int} (h : κ (some (zi b)) m) (e : a = b) : κ (some (zi a)) m := e ▸ h
theorem ntz_tab (hT : zRules T) {D : Nat} {κ : Option zA → zM → Prop} {m : zM} {x k : Nat} (hk : k < 20) (hx : x ≤ 1048576) (e : z_and (z_xor (x : Int) (-1)) ((x : Int) - 1) = ((2 ^ k - 1 : Nat) : Int)) (h : κ (some (zi (k : Int))) m) : T (D + 1) 292 (0, [(0, zi (x : Int))], [], m) κ := by
  have hh := zb292_0 (D := D) (κ := κ) (m := m) (x := x) hT hx
  rw [e] at hh
  have hc : k = 0 ∨ k = 1 ∨ k = 2 ∨ k = 3 ∨ k = 4 ∨ k = 5 ∨ k = 6 ∨ k = 7 ∨ k = 8 ∨ k = 9 ∨ k = 10 ∨ k = 11 ∨ k = 12 ∨ k = 13 ∨ k = 14 ∨ k = 15 ∨ k = 16 ∨ k = 17 ∨ k = 18 ∨ k = 19 := by omega
  rcases hc with rfl | rfl | rfl | rfl | rfl | rfl | rfl | rfl | rfl | rfl | rfl | rfl | rfl | rfl | rfl | rfl | rfl | rfl | rfl | rfl
  · exact hh (fun a0 _ _ _ _ => absurd a0 (by decide +kernel)) (fun a0 _ _ _ _ => absurd a0 (by decide +kernel)) (fun a0 _ _ _ _ => absurd a0 (by decide +kernel)) (fun a0 _ _ _ _ => absurd a0 (by decide +kernel)) (fun a0 _ _ _ _ => absurd a0 (by decide +kernel)) (fun a0 _ _ _ _ => absurd a0 (by decide +kernel)) (fun a0 _ _ _ _ => absurd a0 (by decide +kernel)) (fun a0 _ _ _ _ => absurd a0 (by decide +kernel)) (fun a0 _ _ _ _ => absurd a0 (by decide +kernel)) (fun a0 _ _ _ _ => absurd a0 (by decide +kernel)) (fun a0 _ _ _ _ => absurd a0 (by decide +kernel)) (fun a0 _ _ _ _ => absurd a0 (by decide +kernel)) (fun a0 _ _ _ _ => absurd a0 (by decide +kernel)) (fun a0 _ _ _ _ => absurd a0 (by decide +kernel)) (fun a0 _ _ _ _ => absurd a0 (by decide +kernel)) (fun a0 _ _ _ _ => absurd a0 (by decide +kernel)) (fun _ => k_eq h (by decide +kernel))
  · exact hh (fun _ _ _ _ _ => k_eq h (by decide +kernel)) (fun _ _ _ _ a4 => absurd a4 (by decide +kernel)) (fun _ _ _ a3 _ => absurd a3 (by decide +kernel)) (fun _ _ _ a3 _ => absurd a3 (by decide +kernel)) (fun _ _ a2 _ _ => absurd a2 (by decide +kernel)) (fun _ _ a2 _ _ => absurd a2 (by decide +kernel)) (fun _ _ a2 _ _ => absurd a2 (by decide +kernel)) (fun _ _ a2 _ _ => absurd a2 (by decide +kernel)) (fun _ a1 _ _ _ => absurd a1 (by decide +kernel)) (fun _ a1 _ _ _ => absurd a1 (by decide +kernel)) (fun _ a1 _ _ _ => absurd a1 (by decide +kernel)) (fun _ a1 _ _ _ => absurd a1 (by decide +kernel)) (fun _ a1 _ _ _ => absurd a1 (by decide +kernel)) (fun _ a1 _ _ _ => absurd a1 (by decide +kernel)) (fun _ a1 _ _ _ => absurd a1 (by decide +kernel)) (fun _ a1 _ _ _ => absurd a1 (by decide +kernel)) (fun a0 => absurd a0 (by decide +kernel))
  · exact hh (fun _ _ _ _ _ => k_eq h (by decide +kernel)) (fun _ _ _ _ a4 => absurd a4 (by decide +kernel)) (fun _ _ _ a3 _ => absurd a3 (by decide +kernel)) (fun _ _ _ a3 _ => absurd a3 (by decide +kernel)) (fun _ _ a2 _ _ => absurd a2 (by decide +kernel)) (fun _ _ a2 _ _ => absurd a2 (by decide +kernel)) (fun _ _ a2 _ _ => absurd a2 (by decide +kernel)) (fun _ _ a2 _ _ => absurd a2 (by decide +kernel)) (fun _ a1 _ _ _ => absurd a1 (by decide +kernel)) (fun _ a1 _ _ _ => absurd a1 (by decide +kernel)) (fun _ a1 _ _ _ => absurd a1 (by decide +kernel)) (fun _ a1 _ _ _ => absurd a1 (by decide +kernel)) (fun _ a1 _ _ _ => absurd a1 (by decide +kernel)) (fun _ a1 _ _ _ => absurd a1 (by decide +kernel)) (fun _ a1 _ _ _ => absurd a1 (by decide +kernel)) (fun _ a1 _ _ _ => absurd a1 (by decide +kernel)) (fun a0 => absurd a0 (by decide +kernel))
  · exact hh (fun _ _ _ _ a4 => absurd a4 (by decide +kernel)) (fun _ _ _ _ _ => k_eq h (by decide +kernel)) (fun _ _ _ a3 _ => absurd a3 (by decide +kernel)) (fun _ _ _ a3 _ => absurd a3 (by decide +kernel)) (fun _ _ a2 _ _ => absurd a2 (by decide +kernel)) (fun _ _ a2 _ _ => absurd a2 (by decide +kernel)) (fun _ _ a2 _ _ => absurd a2 (by decide +kernel)) (fun _ _ a2 _ _ => absurd a2 (by decide +kernel)) (fun _ a1 _ _ _ => absurd a1 (by decide +kernel)) (fun _ a1 _ _ _ => absurd a1 (by decide +kernel)) (fun _ a1 _ _ _ => absurd a1 (by decide +kernel)) (fun _ a1 _ _ _ => absurd a1 (by decide +kernel)) (fun _ a1 _ _ _ => absurd a1 (by decide +kernel)) (fun _ a1 _ _ _ => absurd a1 (by decide +kernel)) (fun _ a1 _ _ _ => absurd a1 (by decide +kernel)) (fun _ a1 _ _ _ => absurd a1 (by decide +kernel)) (fun a0 => absurd a0 (by decide +kernel))
  · exact hh (fun _ _ _ _ a4 => absurd a4 (by decide +kernel)) (fun _ _ _ _ _ => k_eq h (by decide +kernel)) (fun _ _ _ a3 _ => absurd a3 (by decide +kernel)) (fun _ _ _ a3 _ => absurd a3 (by decide +kernel)) (fun _ _ a2 _ _ => absurd a2 (by decide +kernel)) (fun _ _ a2 _ _ => absurd a2 (by decide +kernel)) (fun _ _ a2 _ _ => absurd a2 (by decide +kernel)) (fun _ _ a2 _ _ => absurd a2 (by decide +kernel)) (fun _ a1 _ _ _ => absurd a1 (by decide +kernel)) (fun _ a1 _ _ _ => absurd a1 (by decide +kernel)) (fun _ a1 _ _ _ => absurd a1 (by decide +kernel)) (fun _ a1 _ _ _ => absurd a1 (by decide +kernel)) (fun _ a1 _ _ _ => absurd a1 (by decide +kernel)) (fun _ a1 _ _ _ => absurd a1 (by decide +kernel)) (fun _ a1 _ _ _ => absurd a1 (by decide +kernel)) (fun _ a1 _ _ _ => absurd a1 (by decide +kernel)) (fun a0 => absurd a0 (by decide +kernel))
  · exact hh (fun _ _ _ a3 _ => absurd a3 (by decide +kernel)) (fun _ _ _ a3 _ => absurd a3 (by decide +kernel)) (fun _ _ _ _ _ => k_eq h (by decide +kernel)) (fun _ _ _ _ a4 => absurd a4 (by decide +kernel)) (fun _ _ a2 _ _ => absurd a2 (by decide +kernel)) (fun _ _ a2 _ _ => absurd a2 (by decide +kernel)) (fun _ _ a2 _ _ => absurd a2 (by decide +kernel)) (fun _ _ a2 _ _ => absurd a2 (by decide +kernel)) (fun _ a1 _ _ _ => absurd a1 (by decide +kernel)) (fun _ a1 _ _ _ => absurd a1 (by decide +kernel)) (fun _ a1 _ _ _ => absurd a1 (by decide +kernel)) (fun _ a1 _ _ _ => absurd a1 (by decide +kernel)) (fun _ a1 _ _ _ => absurd a1 (by decide +kernel)) (fun _ a1 _ _ _ => absurd a1 (by decide +kernel)) (fun _ a1 _ _ _ => absurd a1 (by decide +kernel)) (fun _ a1 _ _ _ => absurd a1 (by decide +kernel)) (fun a0 => absurd a0 (by decide +kernel))
  · exact hh (fun _ _ _ a3 _ => absurd a3 (by decide +kernel)) (fun _ _ _ a3 _ => absurd a3 (by decide +kernel)) (fun _ _ _ _ _ => k_eq h (by decide +kernel)) (fun _ _ _ _ a4 => absurd a4 (by decide +kernel)) (fun _ _ a2 _ _ => absurd a2 (by decide +kernel)) (fun _ _ a2 _ _ => absurd a2 (by decide +kernel)) (fun _ _ a2 _ _ => absurd a2 (by decide +kernel)) (fun _ _ a2 _ _ => absurd a2 (by decide +kernel)) (fun _ a1 _ _ _ => absurd a1 (by decide +kernel)) (fun _ a1 _ _ _ => absurd a1 (by decide +kernel)) (fun _ a1 _ _ _ => absurd a1 (by decide +kernel)) (fun _ a1 _ _ _ => absurd a1 (by decide +kernel)) (fun _ a1 _ _ _ => absurd a1 (by decide +kernel)) (fun _ a1 _ _ _ => absurd a1 (by decide +kernel)) (fun _ a1 _ _ _ => absurd a1 (by decide +kernel)) (fun _ a1 _ _ _ => absurd a1 (by decide +kernel)) (fun a0 => absurd a0 (by decide +kernel))
  · exact hh (fun _ _ _ a3 _ => absurd a3 (by decide +kernel)) (fun _ _ _ a3 _ => absurd a3 (by decide +kernel)) (fun _ _ _ _ a4 => absurd a4 (by decide +kernel)) (fun _ _ _ _ _ => k_eq h (by decide +kernel)) (fun _ _ a2 _ _ => absurd a2 (by decide +kernel)) (fun _ _ a2 _ _ => absurd a2 (by decide +kernel)) (fun _ _ a2 _ _ => absurd a2 (by decide +kernel)) (fun _ _ a2 _ _ => absurd a2 (by decide +kernel)) (fun _ a1 _ _ _ => absurd a1 (by decide +kernel)) (fun _ a1 _ _ _ => absurd a1 (by decide +kernel)) (fun _ a1 _ _ _ => absurd a1 (by decide +kernel)) (fun _ a1 _ _ _ => absurd a1 (by decide +kernel)) (fun _ a1 _ _ _ => absurd a1 (by decide +kernel)) (fun _ a1 _ _ _ => absurd a1 (by decide +kernel)) (fun _ a1 _ _ _ => absurd a1 (by decide +kernel)) (fun _ a1 _ _ _ => absurd a1 (by decide +kernel)) (fun a0 => absurd a0 (by decide +kernel))
  · exact hh (fun _ _ _ a3 _ => absurd a3 (by decide +kernel)) (fun _ _ _ a3 _ => absurd a3 (by decide +kernel)) (fun _ _ _ _ a4 => absurd a4 (by decide +kernel)) (fun _ _ _ _ _ => k_eq h (by decide +kernel)) (fun _ _ a2 _ _ => absurd a2 (by decide +kernel)) (fun _ _ a2 _ _ => absurd a2 (by decide +kernel)) (fun _ _ a2 _ _ => absurd a2 (by decide +kernel)) (fun _ _ a2 _ _ => absurd a2 (by decide +kernel)) (fun _ a1 _ _ _ => absurd a1 (by decide +kernel)) (fun _ a1 _ _ _ => absurd a1 (by decide +kernel)) (fun _ a1 _ _ _ => absurd a1 (by decide +kernel)) (fun _ a1 _ _ _ => absurd a1 (by decide +kernel)) (fun _ a1 _ _ _ => absurd a1 (by decide +kernel)) (fun _ a1 _ _ _ => absurd a1 (by decide +kernel)) (fun _ a1 _ _ _ => absurd a1 (by decide +kernel)) (fun _ a1 _ _ _ => absurd a1 (by decide +kernel)) (fun a0 => absurd a0 (by decide +kernel))
  · exact hh (fun _ _ a2 _ _ => absurd a2 (by decide +kernel)) (fun _ _ a2 _ _ => absurd a2 (by decide +kernel)) (fun _ _ a2 _ _ => absurd a2 (by decide +kernel)) (fun _ _ a2 _ _ => absurd a2 (by decide +kernel)) (fun _ _ _ _ _ => k_eq h (by decide +kernel)) (fun _ _ _ _ a4 => absurd a4 (by decide +kernel)) (fun _ _ _ a3 _ => absurd a3 (by decide +kernel)) (fun _ _ _ a3 _ => absurd a3 (by decide +kernel)) (fun _ a1 _ _ _ => absurd a1 (by decide +kernel)) (fun _ a1 _ _ _ => absurd a1 (by decide +kernel)) (fun _ a1 _ _ _ => absurd a1 (by decide +kernel)) (fun _ a1 _ _ _ => absurd a1 (by decide +kernel)) (fun _ a1 _ _ _ => absurd a1 (by decide +kernel)) (fun _ a1 _ _ _ => absurd a1 (by decide +kernel)) (fun _ a1 _ _ _ => absurd a1 (by decide +kernel)) (fun _ a1 _ _ _ => absurd a1 (by decide +kernel)) (fun a0 => absurd a0 (by decide +kernel))
  · exact hh (fun _ _ a2 _ _ => absurd a2 (by decide +kernel)) (fun _ _ a2 _ _ => absurd a2 (by decide +kernel)) (fun _ _ a2 _ _ => absurd a2 (by decide +kernel)) (fun _ _ a2 _ _ => absurd a2 (by decide +kernel)) (fun _ _ _ _ _ => k_eq h (by decide +kernel)) (fun _ _ _ _ a4 => absurd a4 (by decide +kernel)) (fun _ _ _ a3 _ => absurd a3 (by decide +kernel)) (fun _ _ _ a3 _ => absurd a3 (by decide +kernel)) (fun _ a1 _ _ _ => absurd a1 (by decide +kernel)) (fun _ a1 _ _ _ => absurd a1 (by decide +kernel)) (fun _ a1 _ _ _ => absurd a1 (by decide +kernel)) (fun _ a1 _ _ _ => absurd a1 (by decide +kernel)) (fun _ a1 _ _ _ => absurd a1 (by decide +kernel)) (fun _ a1 _ _ _ => absurd a1 (by decide +kernel)) (fun _ a1 _ _ _ => absurd a1 (by decide +kernel)) (fun _ a1 _ _ _ => absurd a1 (by decide +kernel)) (fun a0 => absurd a0 (by decide +kernel))
  · exact hh (fun _ _ a2 _ _ => absurd a2 (by decide +kernel)) (fun _ _ a2 _ _ => absurd a2 (by decide +kernel)) (fun _ _ a2 _ _ => absurd a2 (by decide +kernel)) (fun _ _ a2 _ _ => absurd a2 (by decide +kernel)) (fun _ _ _ _ a4 => absurd a4 (by decide +kernel)) (fun _ _ _ _ _ => k_eq h (by decide +kernel)) (fun _ _ _ a3 _ => absurd a3 (by decide +kernel)) (fun _ _ _ a3 _ => absurd a3 (by decide +kernel)) (fun _ a1 _ _ _ => absurd a1 (by decide +kernel)) (fun _ a1 _ _ _ => absurd a1 (by decide +kernel)) (fun _ a1 _ _ _ => absurd a1 (by decide +kernel)) (fun _ a1 _ _ _ => absurd a1 (by decide +kernel)) (fun _ a1 _ _ _ => absurd a1 (by decide +kernel)) (fun _ a1 _ _ _ => absurd a1 (by decide +kernel)) (fun _ a1 _ _ _ => absurd a1 (by decide +kernel)) (fun _ a1 _ _ _ => absurd a1 (by decide +kernel)) (fun a0 => absurd a0 (by decide +kernel))
  · exact hh (fun _ _ a2 _ _ => absurd a2 (by decide +kernel)) (fun _ _ a2 _ _ => absurd a2 (by decide +kernel)) (fun _ _ a2 _ _ => absurd a2 (by decide +kernel)) (fun _ _ a2 _ _ => absurd a2 (by decide +kernel)) (fun _ _ _ _ a4 => absurd a4 (by decide +kernel)) (fun _ _ _ _ _ => k_eq h (by decide +kernel)) (fun _ _ _ a3 _ => absurd a3 (by decide +kernel)) (fun _ _ _ a3 _ => absurd a3 (by decide +kernel)) (fun _ a1 _ _ _ => absurd a1 (by decide +kernel)) (fun _ a1 _ _ _ => absurd a1 (by decide +kernel)) (fun _ a1 _ _ _ => absurd a1 (by decide +kernel)) (fun _ a1 _ _ _ => absurd a1 (by decide +kernel)) (fun _ a1 _ _ _ => absurd a1 (by decide +kernel)) (fun _ a1 _ _ _ => absurd a1 (by decide +kernel)) (fun _ a1 _ _ _ => absurd a1 (by decide +kernel)) (fun _ a1 _ _ _ => absurd a1 (by decide +kernel)) (fun a0 => absurd a0 (by decide +kernel))
  · exact hh (fun _ _ a2 _ _ => absurd a2 (by decide +kernel)) (fun _ _ a2 _ _ => absurd a2 (by decide +kernel)) (fun _ _ a2 _ _ => absurd a2 (by decide +kernel)) (fun _ _ a2 _ _ => absurd a2 (by decide +kernel)) (fun _ _ _ a3 _ => absurd a3 (by decide +kernel)) (fun _ _ _ a3 _ => absurd a3 (by decide +kernel)) (fun _ _ _ _ _ => k_eq h (by decide +kernel)) (fun _ _ _ _ a4 => absurd a4 (by decide +kernel)) (fun _ a1 _ _ _ => absurd a1 (by decide +kernel)) (fun _ a1 _ _ _ => absurd a1 (by decide +kernel)) (fun _ a1 _ _ _ => absurd a1 (by decide +kernel)) (fun _ a1 _ _ _ => absurd a1 (by decide +kernel)) (fun _ a1 _ _ _ => absurd a1 (by decide +kernel)) (fun _ a1 _ _ _ => absurd a1 (by decide +kernel)) (fun _ a1 _ _ _ => absurd a1 (by decide +kernel)) (fun _ a1 _ _ _ => absurd a1 (by decide +kernel)) (fun a0 => absurd a0 (by decide +kernel))
  · exact hh (fun _ _ a2 _ _ => absurd a2 (by decide +kernel)) (fun _ _ a2 _ _ => absurd a2 (by decide +kernel)) (fun _ _ a2 _ _ => absurd a2 (by decide +kernel)) (fun _ _ a2 _ _ => absurd a2 (by decide +kernel)) (fun _ _ _ a3 _ => absurd a3 (by decide +kernel)) (fun _ _ _ a3 _ => absurd a3 (by decide +kernel)) (fun _ _ _ _ _ => k_eq h (by decide +kernel)) (fun _ _ _ _ a4 => absurd a4 (by decide +kernel)) (fun _ a1 _ _ _ => absurd a1 (by decide +kernel)) (fun _ a1 _ _ _ => absurd a1 (by decide +kernel)) (fun _ a1 _ _ _ => absurd a1 (by decide +kernel)) (fun _ a1 _ _ _ => absurd a1 (by decide +kernel)) (fun _ a1 _ _ _ => absurd a1 (by decide +kernel)) (fun _ a1 _ _ _ => absurd a1 (by decide +kernel)) (fun _ a1 _ _ _ => absurd a1 (by decide +kernel)) (fun _ a1 _ _ _ => absurd a1 (by decide +kernel)) (fun a0 => absurd a0 (by decide +kernel))
  · exact hh (fun _ _ a2 _ _ => absurd a2 (by decide +kernel)) (fun _ _ a2 _ _ => absurd a2 (by decide +kernel)) (fun _ _ a2 _ _ => absurd a2 (by decide +kernel)) (fun _ _ a2 _ _ => absurd a2 (by decide +kernel)) (fun _ _ _ a3 _ => absurd a3 (by decide +kernel)) (fun _ _ _ a3 _ => absurd a3 (by decide +kernel)) (fun _ _ _ _ a4 => absurd a4 (by decide +kernel)) (fun _ _ _ _ _ => k_eq h (by decide +kernel)) (fun _ a1 _ _ _ => absurd a1 (by decide +kernel)) (fun _ a1 _ _ _ => absurd a1 (by decide +kernel)) (fun _ a1 _ _ _ => absurd a1 (by decide +kernel)) (fun _ a1 _ _ _ => absurd a1 (by decide +kernel)) (fun _ a1 _ _ _ => absurd a1 (by decide +kernel)) (fun _ a1 _ _ _ => absurd a1 (by decide +kernel)) (fun _ a1 _ _ _ => absurd a1 (by decide +kernel)) (fun _ a1 _ _ _ => absurd a1 (by decide +kernel)) (fun a0 => absurd a0 (by decide +kernel))
  · exact hh (fun _ _ a2 _ _ => absurd a2 (by decide +kernel)) (fun _ _ a2 _ _ => absurd a2 (by decide +kernel)) (fun _ _ a2 _ _ => absurd a2 (by decide +kernel)) (fun _ _ a2 _ _ => absurd a2 (by decide +kernel)) (fun _ _ _ a3 _ => absurd a3 (by decide +kernel)) (fun _ _ _ a3 _ => absurd a3 (by decide +kernel)) (fun _ _ _ _ a4 => absurd a4 (by decide +kernel)) (fun _ _ _ _ _ => k_eq h (by decide +kernel)) (fun _ a1 _ _ _ => absurd a1 (by decide +kernel)) (fun _ a1 _ _ _ => absurd a1 (by decide +kernel)) (fun _ a1 _ _ _ => absurd a1 (by decide +kernel)) (fun _ a1 _ _ _ => absurd a1 (by decide +kernel)) (fun _ a1 _ _ _ => absurd a1 (by decide +kernel)) (fun _ a1 _ _ _ => absurd a1 (by decide +kernel)) (fun _ a1 _ _ _ => absurd a1 (by decide +kernel)) (fun _ a1 _ _ _ => absurd a1 (by decide +kernel)) (fun a0 => absurd a0 (by decide +kernel))
  · exact hh (fun _ a1 _ _ _ => absurd a1 (by decide +kernel)) (fun _ a1 _ _ _ => absurd a1 (by decide +kernel)) (fun _ a1 _ _ _ => absurd a1 (by decide +kernel)) (fun _ a1 _ _ _ => absurd a1 (by decide +kernel)) (fun _ a1 _ _ _ => absurd a1 (by decide +kernel)) (fun _ a1 _ _ _ => absurd a1 (by decide +kernel)) (fun _ a1 _ _ _ => absurd a1 (by decide +kernel)) (fun _ a1 _ _ _ => absurd a1 (by decide +kernel)) (fun _ _ _ _ _ => k_eq h (by decide +kernel)) (fun _ _ _ _ a4 => absurd a4 (by decide +kernel)) (fun _ _ _ a3 _ => absurd a3 (by decide +kernel)) (fun _ _ _ a3 _ => absurd a3 (by decide +kernel)) (fun _ _ a2 _ _ => absurd a2 (by decide +kernel)) (fun _ _ a2 _ _ => absurd a2 (by decide +kernel)) (fun _ _ a2 _ _ => absurd a2 (by decide +kernel)) (fun _ _ a2 _ _ => absurd a2 (by decide +kernel)) (fun a0 => absurd a0 (by decide +kernel))
  · exact hh (fun _ a1 _ _ _ => absurd a1 (by decide +kernel)) (fun _ a1 _ _ _ => absurd a1 (by decide +kernel)) (fun _ a1 _ _ _ => absurd a1 (by decide +kernel)) (fun _ a1 _ _ _ => absurd a1 (by decide +kernel)) (fun _ a1 _ _ _ => absurd a1 (by decide +kernel)) (fun _ a1 _ _ _ => absurd a1 (by decide +kernel)) (fun _ a1 _ _ _ => absurd a1 (by decide +kernel)) (fun _ a1 _ _ _ => absurd a1 (by decide +kernel)) (fun _ _ _ _ _ => k_eq h (by decide +kernel)) (fun _ _ _ _ a4 => absurd a4 (by decide +kernel)) (fun _ _ _ a3 _ => absurd a3 (by decide +kernel)) (fun _ _ _ a3 _ => absurd a3 (by decide +kernel)) (fun _ _ a2 _ _ => absurd a2 (by decide +kernel)) (fun _ _ a2 _ _ => absurd a2 (by decide +kernel)) (fun _ _ a2 _ _ => absurd a2 (by decide +kernel)) (fun _ _ a2 _ _ => absurd a2 (by decide +kernel)) (fun a0 => absurd a0 (by decide +kernel))
  · exact hh (fun _ a1 _ _ _ => absurd a1 (by decide +kernel)) (fun _ a1 _ _ _ => absurd a1 (by decide +kernel)) (fun _ a1 _ _ _ => absurd a1 (by decide +kernel)) (fun _ a1 _ _ _ => absurd a1 (by decide +kernel)) (fun _ a1 _ _ _ => absurd a1 (by decide +kernel)) (fun _ a1 _ _ _ => absurd a1 (by decide +kernel)) (fun _ a1 _ _ _ => absurd a1 (by decide +kernel)) (fun _ a1 _ _ _ => absurd a1 (by decide +kernel)) (fun _ _ _ _ a4 => absurd a4 (by decide +kernel)) (fun _ _ _ _ _ => k_eq h (by decide +kernel)) (fun _ _ _ a3 _ => absurd a3 (by decide +kernel)) (fun _ _ _ a3 _ => absurd a3 (by decide +kernel)) (fun _ _ a2 _ _ => absurd a2 (by decide +kernel)) (fun _ _ a2 _ _ => absurd a2 (by decide +kernel)) (fun _ _ a2 _ _ => absurd a2 (by decide +kernel)) (fun _ _ a2 _ _ => absurd a2 (by decide +kernel)) (fun a0 => absurd a0 (by decide +kernel))
theorem z_findP (hT : zRules T) {D : Nat} {κ : Option zA → zM → Prop} {m : zM} {n v : Nat} (hB : zB m) (hn : m 75 56 = (n : Int)) (hv : v ≤ 999) (hv1 : 1 ≤ v)
    (h0 : ∀ M, zB M → zFr (inL [(90, none), (74, some 38), (74, some 39)]) m M → b_non (b_pc m) n v → κ (some (zi (-2))) M)
    (h1 : ∀ w P M, zB M → zFr (inL [(90, none), (74, some 38), (74, some 39)]) m M → b_few (b_pc m) n v w → b_best (b_pc m) n v w P → M 74 38 = (P : Int) → M 74 39 = b_sum (b_pc m) n P - v → κ (some (zi (w : Int))) M) : T (D + 3) 246 (0, [(0, zr 74), (1, zi (v : Int))], [], m) κ := by
  have b56 : 0 ≤ m 75 56 ∧ m 75 56 ≤ 20 := hB 75 56
  have n20 : n ≤ 20 := by omega
  have hp : ∀ q, q < 20 → 0 ≤ b_pc m q ∧ b_pc m q ≤ 108 := fun q hq => zSg hB 75 36 56 0 108 rfl (q + 36) (by omega) (by omega)
  have pn : 2 ^ n ≤ 2 ^ 20 := Nat.pow_le_pow_right (by omega) n20
  refine zb246_0 hT hB hv ?_
  refine z_fewest (D := D + 1) hT hB hn hv hv1 (fun M hBM hF hnon => ?_) (fun w M hBM hF hfew => ?_)
  · exact zb246_5 hT rfl hBM hv (by omega) (fun q => by omega) (fun _ => h0 M hBM (hF.sub (inL_sub (by decide))) hnon)
  have hw20 : w ≤ 20 := by have := hfew.1; omega
  refine zb246_5 hT rfl hBM hv (by omega) (fun _ hz => ?_) (fun q => by omega)
  have pw1 : 1 ≤ 2 ^ w := Nat.one_le_two_pow
  have pw : 2 ^ w ≤ 2 ^ n := Nat.pow_le_pow_right (by omega) hfew.1.2
  have pw2 : 2 ^ 1 ≤ 2 ^ w := Nat.pow_le_pow_right (by omega) hfew.1.1
  have eN : ∀ y, y < 2 ^ n → b_cnt 22 y = b_cnt n y ∧ b_sum (b_pc m) 20 y = b_sum (b_pc m) n y := fun y hy => ⟨b_cnt_ge n 22 hy (by omega), b_sum_ge n 20 hy (by omega)⟩
  have fin : ∀ (x : Nat) (M : zM), 2 ^ n ≤ x → x ≤ 2 ^ 21 → zB M → zFr (inL [(90, none), (74, some 38), (74, some 39)]) m M → b_run (b_pc m) n v w x (M 74 38) (M 74 39) → T (D + 3) 246 (23, [(0, zr 74), (1, zi (v : Int)), (2, zi (w : Int)), (3, zi (x : Int))], [], M) κ := by
    intro x M hxn hx hBM hF hI
    have e56 : M 75 56 = (n : Int) := (hF 75 56 rfl).trans hn
    have esh : z_shl 1 (M 75 56) = ((2 ^ n : Nat) : Int) := by rw [e56, z_shl1T n (by omega)]
    refine zb246_23 hT rfl hBM hv hw20 (by omega) (fun _ => ?_) (fun q => by rw [esh] at q; omega)
    rcases hI with ⟨p0, g⟩ | ⟨P, g1, g2, g3, g4, g5, g6, g7, g8⟩
    · exfalso
      obtain ⟨s, s1, s2⟩ := hfew.2.1
      have hl := b_pick_lt (f := b_pc m) n w s
      obtain ⟨o1, o2⟩ := b_pick_ok n w s s2
      have := g (b_pick (b_pc m) n w s) (by omega) (by rw [(eN _ hl).1, o1])
      rw [(eN _ hl).2, o2] at this
      omega
    · rw [(eN P g3).2] at g5 g6
      rw [(eN P g3).1] at g4
      refine h1 w P M hBM hF hfew ⟨⟨g3, g4⟩, g5, fun y y1 y2 y3 => ?_⟩ g1 g6
      have := g8 y (by omega) (by rw [(eN y y1).1]; exact y2) (by rw [(eN y y1).2]; exact y3)
      rw [(eN y y1).2, (eN P g3).2] at this
      exact this
  have main : ∀ (j x : Nat) (M : zM), 2 ^ 21 ≤ x + j → x ≤ 2 ^ 21 → 0 < x → b_cnt 22 x = w → zB M → zFr (inL [(90, none), (74, some 38), (74, some 39)]) m M → b_run (b_pc m) n v w x (M 74 38) (M 74 39) →
      T (D + 3) 246 (23, [(0, zr 74), (1, zi (v : Int)), (2, zi (w : Int)), (3, zi (x : Int))], [], M) κ := by
    intro j
    induction j with
    | zero =>
      intro x M hj hx h0x hc hBM hF hI
      exact fin x M (by omega) hx hBM hF hI
    | succ j ih =>
      intro x M hj hx h0x hc hBM hF hI
      by_cases hxn : 2 ^ n ≤ x
      · exact fin x M hxn hx hBM hF hI
      have e56 : M 75 56 = (n : Int) := (hF 75 56 rfl).trans hn
      have esh : z_shl 1 (M 75 56) = ((2 ^ n : Nat) : Int) := by rw [e56, z_shl1T n (by omega)]
      obtain ⟨hne, n1, e1, l1, l2, c1, c2⟩ := z_gos h0x (by omega)
      have nxt : ∀ M2, zB M2 → zFr (inL [(90, none), (74, some 38), (74, some 39)]) m M2 → b_run (b_pc m) n v w n1 (M2 74 38) (M2 74 39) → T (D + 3) 246 (23, [(0, zr 74), (1, zi (v : Int)), (2, zi (w : Int)), (3, zi (z_or ((x : Int) + z_and (x : Int) (-(x : Int))) (z_shr (Int.tdiv (z_xor (x : Int) ((x : Int) + z_and (x : Int) (-(x : Int)))) (z_and (x : Int) (-(x : Int)))) 2)))], [], M2) κ := fun M2 hB2 hF2 hI2 => by
        rw [e1]
        exact ih n1 M2 (by omega) (by omega) (by omega) (c1.trans hc) hB2 hF2 hI2
      have cov : ∀ y, y < n1 → b_cnt 22 y = w → y < x ∨ y = x := fun y hy hcy => by
        by_cases q1 : y < x
        · exact Or.inl q1
        · by_cases q2 : y = x
          · exact Or.inr q2
          · exact absurd (hcy.trans hc.symm) (c2 y (by omega) hy)
      have bS : ∀ y, 0 ≤ b_sum (b_pc m) 20 y ∧ b_sum (b_pc m) 20 y ≤ 2160 := fun y => by
        have := b_sum_b (f := b_pc m) (x := y) 20 hp
        omega
      have inner : ∀ y : Nat, ∀ s : Nat, y ≤ x → (s : Int) + b_sum (b_pc m) 20 y = b_sum (b_pc m) 20 x → T (D + 3) 246 (42, [(0, zr 74), (1, zi (v : Int)), (2, zi (w : Int)), (3, zi (x : Int)), (4, zi (s : Int)), (5, zi (y : Int))], [], M) κ := by
        intro y
        induction y using Nat.strongRecOn with
        | _ y ihy =>
          intro s hyx hs
          have bx := bS x
          have by2 := bS y
          by_cases y0 : y = 0
          · subst y0
            rw [b_sum_0] at hs
            refine zb246_42 hT rfl hBM hv hw20 (by omega) (by omega) (by omega) (fun _ _ => hne) (fun _ q => ?_) (fun _ _ _ => hne) (fun _ q1 q2 hz => ?_) (fun _ _ _ _ => hne) (fun _ q1 q2 q3 => ?_) (fun _ _ _ _ => hne) (fun _ q1 q2 q3 hz => ?_) (fun q => absurd rfl q)
            · refine nxt M hBM hF ?_
              rcases hI with ⟨p0, g⟩ | ⟨P, g1, g2, g3, g4, g5, g6, g7, g8⟩
              · refine Or.inl ⟨p0, fun y hy hcy => ?_⟩
                rcases cov y hy hcy with q1 | q1
                · exact g y q1 hcy
                · rw [q1]
                  omega
              · refine Or.inr ⟨P, g1, g2, g3, g4, g5, g6, by omega, fun y hy hcy hvy => ?_⟩
                rcases cov y hy hcy with q1 | q1
                · exact g8 y q1 hcy hvy
                · rw [q1] at hvy
                  omega
            · refine nxt _ hz ((hF.set rfl).set rfl) ?_
              rw [zu_off (by omega), zu_sm rfl, zu_sm rfl]
              rcases hI with ⟨p0, g⟩ | ⟨P, g1, g2, g3, g4, g5, g6, g7, g8⟩
              · refine Or.inr ⟨x, rfl, h0x, by omega, hc, by omega, by omega, l1, fun y hy hcy hvy => ?_⟩
                rcases cov y hy hcy with q3 | q3
                · have := g y q3 hcy
                  omega
                · rw [q3]
                  exact Or.inr ⟨rfl, Nat.le_refl x⟩
              · rw [g1, wr_id (by omega) (by omega)] at q2
                omega
            · refine nxt M hBM hF ?_
              rcases hI with ⟨p0, g⟩ | ⟨P, g1, g2, g3, g4, g5, g6, g7, g8⟩
              · rw [p0] at q2
                exact absurd rfl q2
              · have bP := bS P
                rw [g6, wr_id (by omega) (by omega)] at q3
                refine Or.inr ⟨P, g1, g2, g3, g4, g5, g6, by omega, fun y hy hcy hvy => ?_⟩
                rcases cov y hy hcy with q4 | q4
                · exact g8 y q4 hcy hvy
                · rw [q4]
                  omega
            · refine nxt _ hz ((hF.set rfl).set rfl) ?_
              rw [zu_off (by omega), zu_sm rfl, zu_sm rfl]
              rcases hI with ⟨p0, g⟩ | ⟨P, g1, g2, g3, g4, g5, g6, g7, g8⟩
              · rw [p0] at q2
                exact absurd rfl q2
              · have bP := bS P
                rw [g6, wr_id (by omega) (by omega)] at q3
                refine Or.inr ⟨x, rfl, h0x, by omega, hc, by omega, by omega, l1, fun y hy hcy hvy => ?_⟩
                rcases cov y hy hcy with q4 | q4
                · have := g8 y q4 hcy hvy
                  omega
                · rw [q4]
                  exact Or.inr ⟨rfl, Nat.le_refl x⟩
          · obtain ⟨k, h, hk⟩ := b_odd y (by omega)
            have p1 : 1 ≤ 2 ^ k := Nat.one_le_two_pow
            have p2 : 2 ^ k * 1 ≤ 2 ^ k * (2 * h + 1) := Nat.mul_le_mul_left _ (by omega)
            have k20 : k < 20 := (Nat.pow_lt_pow_iff_right (a := 2) (by omega)).mp (by omega)
            have ed : 2 ^ k * (2 * h + 1) = 2 ^ k * (2 * h) + 2 ^ k := by rw [Nat.mul_add, Nat.mul_one]
            have hcs := b_clear_sum (f := b_pc m) (k := k) (h := h) 20
            rw [if_pos k20, ← hk] at hcs
            have bpk := hp k k20
            refine zb246_42 hT rfl hBM hv hw20 (by omega) (by omega) (by omega) (fun q => by omega) (fun q => by omega) (fun q => by omega) (fun q => by omega) (fun q => by omega) (fun q => by omega) (fun q => by omega) (fun q => by omega) (fun _ => ?_)
            refine ntz_tab (D := D + 1) (k := k) hT k20 (by omega) (by rw [hk]; exact z_ntzv (by omega)) ?_
            refine zb246_60 hT rfl hBM hv hw20 (by omega) (by omega) (by omega) (by omega) ?_
            have e75 : M 75 (k + 36) = b_pc m k := hF 75 (k + 36) rfl
            rw [e75]
            obtain ⟨a, ha⟩ : ∃ a : Nat, (s : Int) + b_pc m k = (a : Int) := ⟨((s : Int) + b_pc m k).toNat, by omega⟩
            have ec : z_and (y : Int) ((y : Int) - 1) = ((2 ^ k * (2 * h) : Nat) : Int) := by rw [hk]; exact z_clear (by omega)
            rw [ha, ec]
            exact ihy _ (by omega) a (by omega) (by omega)
      refine zb246_23 hT rfl hBM hv hw20 (by omega) (fun q => ?_) (fun _ => inner x 0 (Nat.le_refl x) (by rw [show ((0 : Nat) : Int) = 0 from rfl, Int.zero_add]))
      rw [esh] at q
      omega
  have es : z_shl 1 ((w : Nat) : Int) - 1 = ((2 ^ w - 1 : Nat) : Int) := by rw [z_shl1T w (by omega)]; omega
  rw [es]
  refine main (2 ^ 21) (2 ^ w - 1) _ (by omega) (by omega) (by omega) (b_cnt_ones 22 (by omega)) hz ((hF.sub (inL_sub (by decide))).set rfl) ?_
  rw [zu_sm rfl]
  refine Or.inl ⟨rfl, fun y hy hcy => ?_⟩
  have h3 := b_cnt_least 22 (x := y) (by omega)
  rw [hcy] at h3
  omega
end ZFindP
end
