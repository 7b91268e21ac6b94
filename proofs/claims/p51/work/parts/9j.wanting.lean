/-! The reference's wanting(), as the greedy count of numbers. -/
section ZWanting
variable {T : Nat → Nat → zG → (Option zA → zM → Prop) → Prop} {B : Int}
noncomputable abbrev tkT (m : zM) : Nat → Int := fun j => wr (m 98 j)
theorem z_isServed (hT : zRules T) {D : Nat} {κ : Option zA → zM → Prop} {m : zM} {v : Int} {q : Nat} (hB : zB m) (hv : 0 ≤ v ∧ v ≤ 99) (hq : q ≤ 26) (hk : ∀ f : Int, ((f = 1 ∧ y_srv (tkT m) (m 79 0) q v) ∨ (f = 0 ∧ ¬ y_srv (tkT m) (m 79 0) q v)) → κ (some (zi f)) m) : T (D + 3) 268 (0, [(0, zr 74), (1, zi v), (2, zi (q : Int))], [], m) κ := by
  have key : ∀ (j t : Nat), t + j = q → (∀ i : Nat, i < t → ¬ (v ≤ tkT m i ∧ tkT m i ≤ v + m 79 0)) → T (D + 3) 268 (2, [(0, zr 74), (1, zi v), (2, zi (q : Int)), (3, zi (t : Int))], [], m) κ := by
    intro j
    induction j with
    | zero =>
      intro t ht hn
      exact zb268_2 hT rfl hB hv hq (by omega) (fun _ => hk 0 (Or.inr ⟨rfl, fun ⟨i, h1, h2⟩ => hn i (by omega) h2⟩)) (fun x => by omega) (fun x => by omega) (fun x => by omega)
    | succ j ih =>
      intro t ht hn
      have nx : ¬ (v ≤ tkT m t ∧ tkT m t ≤ v + m 79 0) → T (D + 3) 268 (2, [(0, zr 74), (1, zi v), (2, zi (q : Int)), (3, zi ((t : Int) + 1))], [], m) κ := fun h => ih (t + 1) (by omega) (fun i hi => by
        by_cases e : i = t
        · rw [e]
          exact h
        · exact hn i (by omega))
      exact zb268_2 hT rfl hB hv hq (by omega) (fun x => by omega) (fun _ x => nx (fun h => by have h1 : v ≤ wr (m 98 t) := h.1; omega)) (fun _ _ x => nx (fun h => by have h1 : wr (m 98 t) ≤ v + m 79 0 := h.2; omega)) (fun _ x y => hk 1 (Or.inl ⟨rfl, t, by omega, (by show v ≤ wr (m 98 t); omega), (by show wr (m 98 t) ≤ v + m 79 0; omega)⟩))
  exact zb268_0 hT hB hv hq (key q 0 (by omega) (fun i hi => by omega))
theorem z_wanting (hT : zRules T) {D : Nat} {κ : Option zA → zM → Prop} {m : zM} {q N : Nat} (hB : zB m) (hq : q ≤ 26) (hN : m 74 49 = (N : Int)) (hN2 : N ≤ 60) (hk : κ (some (zi (y_want (m 97) (tkT m) (m 79 0) (N : Int) (q : Int)))) m) : T (D + 4) 269 (0, [(0, zr 74), (1, zi (q : Int))], [], m) κ := by
  have b79 : 0 ≤ m 79 0 ∧ m 79 0 ≤ 9 := hB 79 0
  have key : ∀ (j v : Nat), v + j = 100 → T (D + 4) 269 (7, [(0, zr 74), (1, zi (q : Int)), (2, zi (y_w (y_A (m 97) (tkT m) (m 79 0) (N : Int) (q : Int)) (m 79 0) v).1), (3, zi (y_w (y_A (m 97) (tkT m) (m 79 0) (N : Int) (q : Int)) (m 79 0) v).2), (4, zi (v : Int))], [], m) κ := by
    intro j
    induction j with
    | zero =>
      intro v hv
      have ev : v = 100 := by omega
      subst ev
      have h1 := y_wB (y_A (m 97) (tkT m) (m 79 0) (N : Int) (q : Int)) (m 79 0) 100
      have h2 := (y_wL (y_A (m 97) (tkT m) (m 79 0) (N : Int) (q : Int)) (m 79 0) b79.1 100).2
      have b108 : (y_w (y_A (m 97) (tkT m) (m 79 0) (N : Int) (q : Int)) (m 79 0) (99 + 1)).2 ≤ 108 := by
        have h3 := (y_wL (y_A (m 97) (tkT m) (m 79 0) (N : Int) (q : Int)) (m 79 0) b79.1 99).2
        rcases y_wS (y_A (m 97) (tkT m) (m 79 0) (N : Int) (q : Int)) (m 79 0) 99 with ⟨_, e⟩ | ⟨_, e⟩
        · rw [e]
          dsimp only
          omega
        · rw [e]
          omega
      rw [show 99 + 1 = 100 from rfl] at b108
      unfold y_want at hk
      generalize (y_w (y_A (m 97) (tkT m) (m 79 0) (N : Int) (q : Int)) (m 79 0) 100).2 = b at h2 b108
      generalize (y_w (y_A (m 97) (tkT m) (m 79 0) (N : Int) (q : Int)) (m 79 0) 100).1 = c at h1 hk ⊢
      obtain ⟨c', rfl⟩ : ∃ c' : Nat, c = (c' : Int) := ⟨c.toNat, by omega⟩
      exact zb269_7 hT rfl hB hq (by omega) (by omega) (by omega) (fun _ => hk) (fun x => by omega)
    | succ j ih =>
      intro v hv
      have h1 := y_wB (y_A (m 97) (tkT m) (m 79 0) (N : Int) (q : Int)) (m 79 0) v
      have h2 := (y_wL (y_A (m 97) (tkT m) (m 79 0) (N : Int) (q : Int)) (m 79 0) b79.1 v).2
      have h3 := y_wS (y_A (m 97) (tkT m) (m 79 0) (N : Int) (q : Int)) (m 79 0) v
      have ih2 := ih (v + 1) (by omega)
      have hb108 : (y_w (y_A (m 97) (tkT m) (m 79 0) (N : Int) (q : Int)) (m 79 0) v).2 ≤ 108 := by omega
      generalize hc : (y_w (y_A (m 97) (tkT m) (m 79 0) (N : Int) (q : Int)) (m 79 0) v).2 = b at h2 h3 hb108 ⊢
      generalize hc2 : (y_w (y_A (m 97) (tkT m) (m 79 0) (N : Int) (q : Int)) (m 79 0) v).1 = c at h1 h3 ⊢
      obtain ⟨c', rfl⟩ : ∃ c' : Nat, c = (c' : Int) := ⟨c.toNat, by omega⟩
      have same : ¬ (y_A (m 97) (tkT m) (m 79 0) (N : Int) (q : Int) (v : Int) ∧ ¬ ((v : Int) ≤ b ∧ b ≤ (v : Int) + m 79 0)) → T (D + 4) 269 (7, [(0, zr 74), (1, zi (q : Int)), (2, zi (c' : Int)), (3, zi b), (4, zi ((v : Int) + 1))], [], m) κ := fun hn => by
        rcases h3 with ⟨h, _⟩ | ⟨_, e⟩
        · exact absurd h hn
        · rw [e, hc, hc2] at ih2
          exact ih2
      have more : (y_A (m 97) (tkT m) (m 79 0) (N : Int) (q : Int) (v : Int) ∧ ¬ ((v : Int) ≤ b ∧ b ≤ (v : Int) + m 79 0)) → T (D + 4) 269 (7, [(0, zr 74), (1, zi (q : Int)), (2, zi ((c' : Int) + 1)), (3, zi ((v : Int) + m 79 0)), (4, zi ((v : Int) + 1))], [], m) κ := fun hy => by
        rcases h3 with ⟨_, e⟩ | ⟨h, _⟩
        · rw [e] at ih2
          exact ih2
        · exact absurd hy h
      refine zb269_7 hT rfl hB hq (by omega) (by omega) (by omega) (fun x => by omega) (fun _ => ?_)
      have inner : ∀ (i t : Nat) (f : Int), t + i = N → ((f = 1 ∧ ∃ k : Nat, k < t ∧ m 97 k = (v : Int)) ∨ (f = 0 ∧ ¬ ∃ k : Nat, k < t ∧ m 97 k = (v : Int))) → T (D + 4) 269 (20, [(0, zr 74), (1, zi (q : Int)), (2, zi (c' : Int)), (3, zi b), (4, zi (v : Int)), (5, zi f), (6, zi (t : Int))], [], m) κ := by
        intro i
        induction i with
        | zero =>
          intro t f ht hf
          have et : t = N := by omega
          subst et
          refine zb269_20 hT rfl hB hq (by omega) (by omega) (by omega) (by omega) (by omega) (fun _ f0 => ?_) (fun _ f0 => ?_) (fun x => by omega) (fun x => by omega)
          · refine same (fun hy => ?_)
            rcases hf with ⟨h, _⟩ | ⟨_, h⟩
            · omega
            · obtain ⟨⟨⟨k, k1, k2⟩, _⟩, _⟩ := hy
              exact h ⟨k, by omega, k2⟩
          · have hP : ∃ k : Nat, k < t ∧ m 97 k = (v : Int) := by
              rcases hf with ⟨_, h⟩ | ⟨h, _⟩
              · exact h
              · exact absurd h f0
            refine z_isServed hT hB (by omega) hq (fun g hg => ?_)
            have hno : g = 0 → y_A (m 97) (tkT m) (m 79 0) (t : Int) (q : Int) (v : Int) := fun g0 => by
              obtain ⟨k, k1, k2⟩ := hP
              refine ⟨⟨k, by omega, k2⟩, ?_⟩
              rcases hg with ⟨h, _⟩ | ⟨_, h⟩
              · omega
              · exact h
            refine zb269_69 hT rfl hB hq (by omega) (by omega) (by omega) (by omega) (fun g0 => ?_) (fun g0 x => more ⟨hno g0, by omega⟩) (fun g0 _ x => more ⟨hno g0, by omega⟩) (fun g0 _ _ x => more ⟨hno g0, by omega⟩) (fun g0 _ x y => same (fun hy => hy.2 ⟨by omega, by omega⟩))
            refine same (fun hy => hy.1.2 ?_)
            rcases hg with ⟨_, h⟩ | ⟨h, _⟩
            · exact h
            · exact absurd h g0
        | succ i ih3 =>
          intro t f ht hf
          have o0 : z_or f 0 = f := by
            rcases hf with ⟨h, _⟩ | ⟨h, _⟩
            · rw [h]
              decide +kernel
            · rw [h]
              decide +kernel
          have o1 : z_or f 1 = 1 := by
            rcases hf with ⟨h, _⟩ | ⟨h, _⟩
            · rw [h]
              decide +kernel
            · rw [h]
              decide +kernel
          refine zb269_20 hT rfl hB hq (by omega) (by omega) (by omega) (by omega) (by omega) (fun x => by omega) (fun x => by omega) (fun _ x => ?_) (fun _ x => ?_)
          · rw [o0]
            refine ih3 (t + 1) f (by omega) ?_
            rcases hf with ⟨h, k, k1, k2⟩ | ⟨h, h0⟩
            · exact Or.inl ⟨h, k, by omega, k2⟩
            · refine Or.inr ⟨h, fun ⟨k, k1, k2⟩ => ?_⟩
              by_cases e : k = t
              · rw [e] at k2
                exact x k2
              · exact h0 ⟨k, by omega, k2⟩
          · rw [o1]
            exact ih3 (t + 1) 1 (by omega) (Or.inl ⟨rfl, t, by omega, x⟩)
      exact inner N 0 0 (by omega) (Or.inr ⟨rfl, fun ⟨k, k1, _⟩ => by omega⟩)
  exact zb269_0 hT hB hq (key 100 0 (by omega))
end ZWanting
