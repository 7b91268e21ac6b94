/-! The fewest pieces, and the least set of those that sum to the least: by the reference. -/
noncomputable def b_pre (g : Nat → Int) : Nat → Int
  | 0 => 0
  | k + 1 => b_pre g k + g k
theorem b_pre_congr {g h : Nat → Int} : ∀ k, (∀ q, q < k → g q = h q) → b_pre g k = b_pre h k
  | 0, _ => rfl
  | k + 1, e => by rw [b_pre, b_pre, b_pre_congr k (fun q hq => e q (by omega)), e k (by omega)]
/-- sorted: the first k are the most that k of the first i sum to -/
noncomputable def b_srt (f g : Nat → Int) (i : Nat) : Prop := (∀ q, q < i → 0 ≤ g q ∧ g q ≤ 108) ∧ (∀ q, q + 1 < i → g (q + 1) ≤ g q) ∧ (∀ k, k ≤ i → b_mk f i k (b_pre g k) = true) ∧ ∀ j s, b_mk f i j s = true → s ≤ b_pre g j
theorem b_srt_dn {g : Nat → Int} {i : Nat} (h : ∀ q, q + 1 < i → g (q + 1) ≤ g q) : ∀ b a, a ≤ b → b < i → g b ≤ g a
  | 0, a, h1, _ => by
    have : a = 0 := by omega
    subst this
    exact Int.le_refl _
  | b + 1, a, h1, h2 => by
    by_cases e : a = b + 1
    · subst e
      exact Int.le_refl _
    · exact Int.le_trans (h b h2) (b_srt_dn h b a (by omega) (by omega))
theorem b_srt_in {f g g' : Nat → Int} {i q : Nat} (h : b_srt f g i) (hf : 0 ≤ f i ∧ f i ≤ 108) (hq : q ≤ i) (h1 : ∀ k, k < q → g' k = g k) (h2 : g' q = f i) (h3 : ∀ k, q ≤ k → k < i → g' (k + 1) = g k) (h4 : ∀ k, q ≤ k → k < i → g k < f i) (h5 : ∀ k, k < q → f i ≤ g k) : b_srt f g' (i + 1) := by
  obtain ⟨s0, s1, s2, s3⟩ := h
  have pA : ∀ k, k ≤ q → b_pre g' k = b_pre g k := fun k hk => b_pre_congr k (fun x hx => h1 x (by omega))
  have pB : ∀ d, q + d ≤ i → b_pre g' (q + d + 1) = b_pre g (q + d) + f i := by
    intro d
    induction d with
    | zero =>
      intro _
      simp only [Nat.add_zero]
      rw [b_pre, pA q (Nat.le_refl q), h2]
    | succ d ih =>
      intro hd
      rw [show q + (d + 1) + 1 = (q + d + 1) + 1 by omega, b_pre, ih (by omega), h3 (q + d) (by omega) (by omega), show q + (d + 1) = q + d + 1 by omega, b_pre]
      omega
  have pC : ∀ k, q ≤ k → k ≤ i → b_pre g' (k + 1) = b_pre g k + f i := fun k k1 k2 => by
    have := pB (k - q) (by omega)
    rwa [show q + (k - q) = k by omega] at this
  refine ⟨fun k hk => ?_, fun k hk => ?_, fun k hk => ?_, fun j s hs => ?_⟩
  · by_cases e1 : k < q
    · rw [h1 k e1]
      exact s0 k (by omega)
    · by_cases e2 : k = q
      · rw [e2, h2]
        exact hf
      · have := h3 (k - 1) (by omega) (by omega)
        rw [show k - 1 + 1 = k by omega] at this
        rw [this]
        exact s0 (k - 1) (by omega)
  · by_cases e1 : k + 1 < q
    · rw [h1 k (by omega), h1 (k + 1) e1]
      exact s1 k (by omega)
    · by_cases e2 : k + 1 = q
      · rw [e2, h2, h1 k (by omega)]
        exact h5 k (by omega)
      · by_cases e3 : k = q
        · rw [e3, h2, h3 q (Nat.le_refl q) (by omega)]
          exact Int.le_of_lt (h4 q (Nat.le_refl q) (by omega))
        · have := h3 (k - 1) (by omega) (by omega)
          rw [show k - 1 + 1 = k by omega] at this
          rw [this, h3 k (by omega) (by omega)]
          have := s1 (k - 1) (by omega)
          rw [show k - 1 + 1 = k by omega] at this
          exact this
  · by_cases e1 : k ≤ q
    · rw [pA k e1]
      exact b_mk_up (s2 k (by omega))
    · obtain ⟨c, rfl⟩ : ∃ c, k = c + 1 := ⟨k - 1, by omega⟩
      rw [pC c (by omega) (by omega)]
      refine b_mk_in ?_
      rw [show b_pre g c + f i - f i = b_pre g c by omega]
      exact s2 c (by omega)
  · rcases b_mk_or hs with h9 | ⟨c, rfl, h9⟩
    · have hj := b_mk_le i j s h9
      have h6 := s3 j s h9
      by_cases e1 : j ≤ q
      · rw [pA j e1]
        exact h6
      · obtain ⟨c, rfl⟩ : ∃ c, j = c + 1 := ⟨j - 1, by omega⟩
        rw [pC c (by omega) (by omega)]
        have := h4 c (by omega) (by omega)
        rw [b_pre] at h6
        omega
    · have hj := b_mk_le i c _ h9
      have h6 := s3 c _ h9
      by_cases e1 : q ≤ c
      · rw [pC c e1 hj]
        omega
      · rw [pA (c + 1) (by omega), b_pre]
        have := h5 c (by omega)
        omega
/-- so many are the fewest that sum to v or more -/
noncomputable def b_few (f : Nat → Int) (n : Nat) (v : Int) (w : Nat) : Prop := (1 ≤ w ∧ w ≤ n) ∧ (∃ s, v ≤ s ∧ b_mk f n w s = true) ∧ ∀ j s, j < w → b_mk f n j s = true → s < v
noncomputable def b_non (f : Nat → Int) (n : Nat) (v : Int) : Prop := ∀ j s, b_mk f n j s = true → s < v
/-- the piece's inches -/
noncomputable abbrev b_pc (m : zM) : Nat → Int := fun q => m 75 (q + 36)
section ZFewest
variable {T : Nat → Nat → zG → (Option zA → zM → Prop) → Prop}
theorem z_fewest (hT : zRules T) {D : Nat} {κ : Option zA → zM → Prop} {m : zM} {n v : Nat} (hB : zB m) (hn : m 75 56 = (n : Int)) (hv : v ≤ 999) (hv1 : 1 ≤ v)
    (h0 : ∀ M, zB M → zFr (inL [(90, none)]) m M → b_non (b_pc m) n v → κ (some (zi (-2))) M)
    (h1 : ∀ w M, zB M → zFr (inL [(90, none)]) m M → b_few (b_pc m) n v w → κ (some (zi (w : Int))) M) : T (D + 1) 245 (0, [(0, zr 74), (1, zi (v : Int))], [], m) κ := by
  have b56 : 0 ≤ m 75 56 ∧ m 75 56 ≤ 20 := hB 75 56
  have n20 : n ≤ 20 := by omega
  have hp : ∀ q, q < 20 → 0 ≤ m 75 (q + 36) ∧ m 75 (q + 36) ≤ 108 := fun q hq => zSg hB 75 36 56 0 108 rfl (q + 36) (by omega) (by omega)
  have third : ∀ (j k : Nat) (M : zM), k + j = n → zB M → zFr (inL [(90, none)]) m M → b_srt (b_pc m) (M 90) n → (0 ≤ b_pre (M 90) k ∧ b_pre (M 90) k ≤ 108 * k) → (∀ q, q ≤ k → b_pre (M 90) q < v) → T (D + 1) 245 (93, [(0, zr 74), (1, zi (v : Int)), (2, zi (n : Int)), (3, zi (b_pre (M 90) k)), (4, zi (k : Int))], [], M) κ := by
    intro j
    induction j with
    | zero =>
      intro k M hk hBM hF hs hb hq
      obtain ⟨s, hs2⟩ : ∃ s : Nat, b_pre (M 90) k = (s : Int) := ⟨(b_pre (M 90) k).toNat, by omega⟩
      rw [hs2]
      refine zb245_93 hT rfl hBM hv n20 (by omega) (by omega) (fun _ => h0 M hBM hF (fun j s hj => ?_)) (fun q => by omega) (fun q => by omega)
      have h2 := b_mk_le n j s hj
      have h3 := hs.2.2.2 j s hj
      have h4 := hq j (by omega)
      omega
    | succ j ih =>
      intro k M hk hBM hF hs hb hq
      obtain ⟨s, hs2⟩ : ∃ s : Nat, b_pre (M 90) k = (s : Int) := ⟨(b_pre (M 90) k).toNat, by omega⟩
      have bg := hs.1 k (by omega)
      have e1 : b_pre (M 90) (k + 1) = (s : Int) + M 90 k := by rw [b_pre, hs2]
      have ew : wr ((s : Int) + M 90 k) = (s : Int) + M 90 k := wr_id (by omega) (by omega)
      rw [hs2]
      refine zb245_93 hT rfl hBM hv n20 (by omega) (by omega) (fun q => by omega) (fun _ q => ?_) (fun _ q => ?_)
      · rw [ew] at q
        have := ih (k + 1) M (by omega) hBM hF hs (by omega) (fun x hx => by
          by_cases e : x = k + 1
          · rw [e]
            omega
          · exact hq x (by omega))
        rw [e1] at this
        exact this
      · rw [ew] at q
        have := h1 (k + 1) M hBM hF ⟨by omega, ⟨b_pre (M 90) (k + 1), by omega, hs.2.2.1 (k + 1) (by omega)⟩, fun x s2 hx hx2 => ?_⟩
        · exact this
        · have h3 := hs.2.2.2 x s2 hx2
          have h4 := hq x (by omega)
          omega
  have inner : ∀ (k i : Nat) (M0 M : zM), (∀ M2, zB M2 → zFr (inL [(90, none)]) m M2 → b_srt (b_pc m) (M2 90) (i + 1) → T (D + 1) 245 (10, [(0, zr 74), (1, zi (v : Int)), (2, zi (n : Int)), (3, zi ((i : Int) + 1))], [], M2) κ) → i < n → k ≤ i → b_srt (b_pc m) (M0 90) i → zB M → zFr (inL [(90, none)]) m M → (∀ x, x < k → M 90 x = M0 90 x) → (∀ x, k ≤ x → x < i → M 90 (x + 1) = M0 90 x) → (∀ x, k ≤ x → x < i → M0 90 x < m 75 (i + 36)) →
      T (D + 1) 245 (18, [(0, zr 74), (1, zi (v : Int)), (2, zi (n : Int)), (3, zi (i : Int)), (4, zi (k : Int))], [], M) κ := by
    intro k
    induction k with
    | zero =>
      intro i M0 M out hi hk hs hBM hF g1 g2 g3
      have e75 : M 75 (i + 36) = m 75 (i + 36) := hF 75 (i + 36) rfl
      refine zb245_18 hT rfl hBM hv n20 (by omega) (by omega) (fun _ hz => out _ hz (hF.set rfl) ?_) (fun q => by omega) (fun q => by omega)
      refine b_srt_in (q := 0) hs (hp i (by omega)) (by omega) (fun x hx => by omega) (by rw [zu_sm rfl, e75]) (fun x h1 h2 => by rw [zu_off (by omega), g2 x h1 h2]) g3 (fun x hx => by omega)
    | succ k ih =>
      intro i M0 M out hi hk hs hBM hF g1 g2 g3
      have e75 : M 75 (i + 36) = m 75 (i + 36) := hF 75 (i + 36) rfl
      have ek : (((k + 1 : Nat) : Int) - 1).toNat = k := by omega
      have bg := hs.1 k (by omega)
      have gk := g1 k (by omega)
      have ew : wr (M 90 k) = M0 90 k := by rw [gk]; exact wr_id (by omega) (by omega)
      refine zb245_18 hT rfl hBM hv n20 (by omega) (by omega) (fun q => by omega) (fun _ q hz => out _ hz (hF.set rfl) ?_) (fun _ q hz => ?_)
      · rw [ek, ew, e75] at q
        refine b_srt_in (q := k + 1) hs (hp i (by omega)) (by omega) (fun x hx => by rw [zu_off (by omega), g1 x hx]) (by rw [zu_sm rfl, e75]) (fun x h1 h2 => by rw [zu_off (by omega), g2 x h1 h2]) g3 (fun x hx => ?_)
        have := b_srt_dn hs.2.1 k x (by omega) (by omega)
        show m 75 (i + 36) ≤ M0 90 x
        omega
      · rw [ek, ew, e75] at q
        rw [ek] at hz ⊢
        have := ih i M0 _ out hi (by omega) hs hz (hF.set rfl) (fun x hx => by rw [zu_off (by omega), g1 x (by omega)]) (fun x h1 h2 => ?_) (fun x h1 h2 => ?_)
        · rw [show ((k + 1 : Nat) : Int) + -1 = (k : Int) by omega]
          exact this
        · by_cases e : x = k
          · rw [e, zu_sm rfl, gk]
          · rw [zu_off (by omega), g2 x (by omega) h2]
        · by_cases e : x = k
          · rw [e]
            exact q
          · exact g3 x (by omega) h2
  have outer : ∀ (j i : Nat) (M : zM), i + j = n → zB M → zFr (inL [(90, none)]) m M → b_srt (b_pc m) (M 90) i → T (D + 1) 245 (10, [(0, zr 74), (1, zi (v : Int)), (2, zi (n : Int)), (3, zi (i : Int))], [], M) κ := by
    intro j
    induction j with
    | zero =>
      intro i M hi hBM hF hs
      have : i = n := by omega
      subst this
      refine zb245_10 hT rfl hBM hv n20 n20 (fun _ => ?_) (fun q => by omega)
      exact third i 0 M (by omega) hBM hF hs ⟨Int.le_refl _, Int.le_refl _⟩ (fun q hq => by
        have : q = 0 := by omega
        subst this
        show (0 : Int) < v
        omega)
    | succ j ih =>
      intro i M hi hBM hF hs
      refine zb245_10 hT rfl hBM hv n20 (by omega) (fun q => by omega) (fun _ => ?_)
      exact inner i i M M (fun M2 hB2 hF2 hs2 => ih (i + 1) M2 (by omega) hB2 hF2 hs2) (by omega) (Nat.le_refl i) hs hBM hF (fun _ _ => rfl) (fun x h1 h2 => by omega) (fun x h1 h2 => by omega)
  refine zb245_0 hT hB hv ?_
  rw [hn]
  refine outer n 0 m (by omega) hB zFr.refl ⟨fun q hq => by omega, fun q hq => by omega, fun k hk => ?_, fun j s hs => ?_⟩
  · have : k = 0 := by omega
    subst this
    rfl
  · simp [b_mk] at hs
    rw [hs.1, hs.2]
    exact Int.le_refl _
end ZFewest
theorem b_sum_b {f : Nat → Int} {x : Nat} : ∀ N, (∀ q, q < N → 0 ≤ f q ∧ f q ≤ 108) → 0 ≤ b_sum f N x ∧ b_sum f N x ≤ 108 * N
  | 0, _ => ⟨Int.le_refl _, Int.le_refl _⟩
  | N + 1, h => by
    have h1 := b_sum_b (f := f) (x := x) N (fun q hq => h q (by omega))
    have h2 := h N (by omega)
    rw [b_sum]
    split <;> omega
/-- P is the first of the best sets of w with v or more -/
noncomputable def b_best (f : Nat → Int) (n : Nat) (v : Int) (w P : Nat) : Prop := (P < 2 ^ n ∧ b_cnt n P = w) ∧ v ≤ b_sum f n P ∧ ∀ y, y < 2 ^ n → b_cnt n y = w → v ≤ b_sum f n y → b_sum f n P < b_sum f n y ∨ (b_sum f n P = b_sum f n y ∧ P ≤ y)
/-- the best of the sets below x, if there is one: its number and what it is more -/
noncomputable def b_run (f : Nat → Int) (n v w x : Nat) (p q : Int) : Prop := (p = 0 ∧ ∀ y, y < x → b_cnt 22 y = w → b_sum f 20 y < v) ∨ ∃ P : Nat, p = (P : Int) ∧ 0 < P ∧ P < 2 ^ n ∧ b_cnt 22 P = w ∧ (v : Int) ≤ b_sum f 20 P ∧ q = b_sum f 20 P - v ∧ P < x ∧ ∀ y, y < x → b_cnt 22 y = w → (v : Int) ≤ b_sum f 20 y → b_sum f 20 P < b_sum f 20 y ∨ (b_sum f 20 P = b_sum f 20 y ∧ P ≤ y)
section ZFindP
variable {T : Nat → Nat → zG → (Option zA → zM → Prop) → Prop}
theorem k_eq {κ : Option zA → zM → Prop} {m : zM} {a b : Int} (h : κ (some (zi b)) m) (e : a = b) : κ (some (zi a)) m := e ▸ h
theorem ntz_tab (hT : zRules T) {D : Nat} {κ : Option zA → zM → Prop} {m : zM} {x k : Nat} (hk : k < 20) (hx : x ≤ 1048576) (e : z_and (z_xor (x : Int) (-1)) ((x : Int) - 1) = ((2 ^ k - 1 : Nat) : Int)) (h : κ (some (zi (k : Int))) m) : T (D + 1) 292 (0, [(0, zi (x : Int))], [], m) κ := by
  have hh := zb292_0 (D := D) (κ := κ) (m := m) (x := x) hT hx
  rw [e] at hh
  have hc : k = 0 ∨ k = 1 ∨ k = 2 ∨ k = 3 ∨ k = 4 ∨ k = 5 ∨ k = 6 ∨ k = 7 ∨ k = 8 ∨ k = 9 ∨ k = 10 ∨ k = 11 ∨ k = 12 ∨ k = 13 ∨ k = 14 ∨ k = 15 ∨ k = 16 ∨ k = 17 ∨ k = 18 ∨ k = 19 := by omega
  rcases hc with rfl | rfl | rfl | rfl | rfl | rfl | rfl | rfl | rfl | rfl | rfl | rfl | rfl | rfl | rfl | rfl | rfl | rfl | rfl | rfl
  · exact hh (fun a0 _ _ _ _ => absurd a0 (by decide +kernel)) (fun a0 _ _ _ _ => absurd a0 (by decide +kernel)) (fun a0 _ _ _ _ => absurd a0 (by decide +kernel)) (fun a0 _ _ _ _ => absurd a0 (by decide +kernel)) (fun a0 _ _ _ _ => absurd a0 (by decide +kernel)) (fun a0 _ _ _ _ => absurd a0 (by decide +kernel)) (fun a0 _ _ _ _ => absurd a0 (by decide +kernel)) (fun a0 _ _ _ _ => absurd a0 (by decide +kernel)) (fun a0 _ _ _ _ => absurd a0 (by decide +kernel)) (fun a0 _ _ _ _ => absurd a0 (by decide +kernel)) (fun a0 _ _ _ _ => absurd a0 (by decide +kernel)) (fun a0 _ _ _ _ => absurd a0 (by decide +kernel)) (fun a0 _ _ _ _ => absurd a0 (by decide +kernel)) (fun a0 _ _ _ _ => absurd a0 (by decide +kernel)) (fun a0 _ _ _ _ => absurd a0 (by decide +kernel)) (fun a0 _ _ _ _ => absurd a0 (by decide +kernel)) (fun _ => k_eq h (by decide +kernel))
  · exact hh (fun _ _ _ _ _ => k_eq h (by decide +kernel)) (fun _ _ _ _ a4 => absurd a4 (by decide +kernel)) (fun _ _ _ a3 _ => absurd a3 (by decide +kernel)) (fun _ _ _ a3 _ => absurd a3 (by decide +kernel)) (fun _ _ a2 _ _ => absurd a2 (by decide +kernel)) (fun _ _ a2 _ _ => absurd a2 (by decide +kernel)) (fun _ _ a2 _ _ => absurd a2 (by decide +kernel)) (fun _ _ a2 _ _ => absurd a2 (by decide +kernel)) (fun _ a1 _ _ _ => absurd a1 (by decide +kernel)) (fun _ a1 _ _ _ => absurd a1 (by decide +kernel)) (fun _ a1 _ _ _ => absurd a1 (by decide +kernel)) (fun _ a1 _ _ _ => absurd a1 (by decide +kernel)) (fun _ a1 _ _ _ => absurd a1 (by decide +kernel)) (fun _ a1 _ _ _ => absurd a1 (by decide +kernel)) (fun _ a1 _ _ _ => absurd a1 (by decide +kernel)) (fun _ a1 _ _ _ => absurd a1 (by decide +kernel)) (fun a0 => absurd a0 (by decide +kernel))
  · exact hh (fun _ _ _ _ _ => k_eq h (by decide +kernel)) (fun _ _ _ _ a4 => absurd a4 (by decide +kernel)) (fun _ _ _ a3 _ => absurd a3 (by decide +kernel)) (fun _ _ _ a3 _ => absurd a3 (by decide +kernel)) (fun _ _ a2 _ _ => absurd a2 (by decide +kernel)) (fun _ _ a2 _ _ => absurd a2 (by decide +kernel)) (fun _ _ a2 _ _ => absurd a2 (by decide +kernel)) (fun _ _ a2 _ _ => absurd a2 (by decide +kernel)) (fun _ a1 _ _ _ => absurd a1 (by decide +kernel)) (fun _ a1 _ _ _ => absurd a1 (by decide +kernel)) (fun _ a1 _ _ _ => absurd a1 (by decide +kernel)) (fun _ a1 _ _ _ => absurd a1 (by decide +kernel)) (fun _ a1 _ _ _ => absurd a1 (by decide +kernel)) (fun _ a1 _ _ _ => absurd a1 (by decide +kernel)) (fun _ a1 _ _ _ => absurd a1 (by decide +kernel)) (fun _ a1 _ _ _ => absurd a1 (by decide +kernel)) (fun a0 => absurd a0 (by decide +kernel))
  · exact hh (fun _ _ _ _ a4 => absurd a4 (by decide +kernel)) (fun _ _ _ _ _ => k_eq h (by decide +kernel)) (fun _ _ _ a3 _ => absurd a3 (by decide +kernel)) (fun _ _ _ a3 _ => absurd a3 (by decide +kernel)) (fun _ _ a2 _ _ => absurd a2 (by decide +kernel)) (fun _ _ a2 _ _ => absurd a2 (by decide +kernel)) (fun _ _ a2 _ _ => absurd a2 (by decide +kernel)) (fun _ _ a2 _ _ => absurd a2 (by decide +kernel)) (fun _ a1 _ _ _ => absurd a1 (by decide +kernel)) (fun _ a1 _ _ _ => absurd a1 (by decide +kernel)) (fun _ a1 _ _ _ => absurd a1 (by decide +kernel)) (fun _ a1 _ _ _ => absurd a1 (by decide +kernel)) (fun _ a1 _ _ _ => absurd a1 (by decide +kernel)) (fun _ a1 _ _ _ => absurd a1 (by decide +kernel)) (fun _ a1 _ _ _ => absurd a1 (by decide +kernel)) (fun _ a1 _ _ _ => absurd a1 (by decide +kernel)) (fun a0 => absurd a0 (by decide +kernel))
  · exact hh (fun _ _ _ _ a4 => absurd a4 (by decide +kernel)) (fun _ _ _ _ _ => k_eq h (by decide +kernel)) (fun _ _ _ a3 _ => absurd a3 (by decide +kernel)) (fun _ _ _ a3 _ => absurd a3 (by decide +kernel)) (fun _ _ a2 _ _ => absurd a2 (by decide +kernel)) (fun _ _ a2 _ _ => absurd a2 (by decide +kernel)) (fun _ _ a2 _ _ => absurd a2 (by decide +kernel)) (fun _ _ a2 _ _ => absurd a2 (by decide +kernel)) (fun _ a1 _ _ _ => absurd a1 (by decide +kernel)) (fun _ a1 _ _ _ => absurd a1 (by decide +kernel)) (fun _ a1 _ _ _ => absurd a1 (by decide +kernel)) (fun _ a1 _ _ _ => absurd a1 (by decide +kernel)) (fun _ a1 _ _ _ => absurd a1 (by decide +kernel)) (fun _ a1 _ _ _ => absurd a1 (by decide +kernel)) (fun _ a1 _ _ _ => absurd a1 (by decide +kernel)) (fun _ a1 _ _ _ => absurd a1 (by decide +kernel)) (fun a0 => absurd a0 (by decide +kernel))
  · exact hh (fun _ _ _ a3 _ => absurd a3 (by decide +kernel)) (fun _ _ _ a3 _ => absurd a3 (by decide +kernel)) (fun _ _ _ _ _ => k_eq h (by decide +kernel)) (fun _ _ _ _ a4 => absurd a4 (by decide +kernel)) (fun _ _ a2 _ _ => absurd a2 (by decide +kernel)) (fun _ _ a2 _ _ => absurd a2 (by decide +kernel)) (fun _ _ a2 _ _ => absurd a2 (by decide +kernel)) (fun _ _ a2 _ _ => absurd a2 (by decide +kernel)) (fun _ a1 _ _ _ => absurd a1 (by decide +kernel)) (fun _ a1 _ _ _ => absurd a1 (by decide +kernel)) (fun _ a1 _ _ _ => absurd a1 (by decide +kernel)) (fun _ a1 _ _ _ => absurd a1 (by decide +kernel)) (fun _ a1 _ _ _ => absurd a1 (by decide +kernel)) (fun _ a1 _ _ _ => absurd a1 (by decide +kernel)) (fun _ a1 _ _ _ => absurd a1 (by decide +kernel)) (fun _ a1 _ _ _ => absurd a1 (by decide +kernel)) (fun a0 => absurd a0 (by decide +kernel))
  · exact hh (fun _ _ _ a3 _ => absurd a3 (by decide +kernel)) (fun _ _ _ a3 _ => absurd a3 (by decide +kernel)) (fun _ _ _ _ _ => k_eq h (by decide +kernel)) (fun _ _ _ _ a4 => absurd a4 (by decide +kernel)) (fun _ _ a2 _ _ => absurd a2 (by decide +kernel)) (fun _ _ a2 _ _ => absurd a2 (by decide +kernel)) (fun _ _ a2 _ _ => absurd a2 (by decide +kernel)) (fun _ _ a2 _ _ => absurd a2 (by decide +kernel)) (fun _ a1 _ _ _ => absurd a1 (by decide +kernel)) (fun _ a1 _ _ _ => absurd a1 (by decide +kernel)) (fun _ a1 _ _ _ => absurd a1 (by decide +kernel)) (fun _ a1 _ _ _ => absurd a1 (by decide +kernel)) (fun _ a1 _ _ _ => absurd a1 (by decide +kernel)) (fun _ a1 _ _ _ => absurd a1 (by decide +kernel)) (fun _ a1 _ _ _ => absurd a1 (by decide +kernel)) (fun _ a1 _ _ _ => absurd a1 (by decide +kernel)) (fun a0 => absurd a0 (by decide +kernel))
  · exact hh (fun _ _ _ a3 _ => absurd a3 (by decide +kernel)) (fun _ _ _ a3 _ => absurd a3 (by decide +kernel)) (fun _ _ _ _ a4 => absurd a4 (by decide +kernel)) (fun _ _ _ _ _ => k_eq h (by decide +kernel)) (fun _ _ a2 _ _ => absurd a2 (by decide +kernel)) (fun _ _ a2 _ _ => absurd a2 (by decide +kernel)) (fun _ _ a2 _ _ => absurd a2 (by decide +kernel)) (fun _ _ a2 _ _ => absurd a2 (by decide +kernel)) (fun _ a1 _ _ _ => absurd a1 (by decide +kernel)) (fun _ a1 _ _ _ => absurd a1 (by decide +kernel)) (fun _ a1 _ _ _ => absurd a1 (by decide +kernel)) (fun _ a1 _ _ _ => absurd a1 (by decide +kernel)) (fun _ a1 _ _ _ => absurd a1 (by decide +kernel)) (fun _ a1 _ _ _ => absurd a1 (by decide +kernel)) (fun _ a1 _ _ _ => absurd a1 (by decide +kernel)) (fun _ a1 _ _ _ => absurd a1 (by decide +kernel)) (fun a0 => absurd a0 (by decide +kernel))
  · exact hh (fun _ _ _ a3 _ => absurd a3 (by decide +kernel)) (fun _ _ _ a3 _ => absurd a3 (by decide +kernel)) (fun _ _ _ _ a4 => absurd a4 (by decide +kernel)) (fun _ _ _ _ _ => k_eq h (by decide +kernel)) (fun _ _ a2 _ _ => absurd a2 (by decide +kernel)) (fun _ _ a2 _ _ => absurd a2 (by decide +kernel)) (fun _ _ a2 _ _ => absurd a2 (by decide +kernel)) (fun _ _ a2 _ _ => absurd a2 (by decide +kernel)) (fun _ a1 _ _ _ => absurd a1 (by decide +kernel)) (fun _ a1 _ _ _ => absurd a1 (by decide +kernel)) (fun _ a1 _ _ _ => absurd a1 (by decide +kernel)) (fun _ a1 _ _ _ => absurd a1 (by decide +kernel)) (fun _ a1 _ _ _ => absurd a1 (by decide +kernel)) (fun _ a1 _ _ _ => absurd a1 (by decide +kernel)) (fun _ a1 _ _ _ => absurd a1 (by decide +kernel)) (fun _ a1 _ _ _ => absurd a1 (by decide +kernel)) (fun a0 => absurd a0 (by decide +kernel))
  · exact hh (fun _ _ a2 _ _ => absurd a2 (by decide +kernel)) (fun _ _ a2 _ _ => absurd a2 (by decide +kernel)) (fun _ _ a2 _ _ => absurd a2 (by decide +kernel)) (fun _ _ a2 _ _ => absurd a2 (by decide +kernel)) (fun _ _ _ _ _ => k_eq h (by decide +kernel)) (fun _ _ _ _ a4 => absurd a4 (by decide +kernel)) (fun _ _ _ a3 _ => absurd a3 (by decide +kernel)) (fun _ _ _ a3 _ => absurd a3 (by decide +kernel)) (fun _ a1 _ _ _ => absurd a1 (by decide +kernel)) (fun _ a1 _ _ _ => absurd a1 (by decide +kernel)) (fun _ a1 _ _ _ => absurd a1 (by decide +kernel)) (fun _ a1 _ _ _ => absurd a1 (by decide +kernel)) (fun _ a1 _ _ _ => absurd a1 (by decide +kernel)) (fun _ a1 _ _ _ => absurd a1 (by decide +kernel)) (fun _ a1 _ _ _ => absurd a1 (by decide +kernel)) (fun _ a1 _ _ _ => absurd a1 (by decide +kernel)) (fun a0 => absurd a0 (by decide +kernel))
  · exact hh (fun _ _ a2 _ _ => absurd a2 (by decide +kernel)) (fun _ _ a2 _ _ => absurd a2 (by decide +kernel)) (fun _ _ a2 _ _ => absurd a2 (by decide +kernel)) (fun _ _ a2 _ _ => absurd a2 (by decide +kernel)) (fun _ _ _ _ _ => k_eq h (by decide +kernel)) (fun _ _ _ _ a4 => absurd a4 (by decide +kernel)) (fun _ _ _ a3 _ => absurd a3 (by decide +kernel)) (fun _ _ _ a3 _ => absurd a3 (by decide +kernel)) (fun _ a1 _ _ _ => absurd a1 (by decide +kernel)) (fun _ a1 _ _ _ => absurd a1 (by decide +kernel)) (fun _ a1 _ _ _ => absurd a1 (by decide +kernel)) (fun _ a1 _ _ _ => absurd a1 (by decide +kernel)) (fun _ a1 _ _ _ => absurd a1 (by decide +kernel)) (fun _ a1 _ _ _ => absurd a1 (by decide +kernel)) (fun _ a1 _ _ _ => absurd a1 (by decide +kernel)) (fun _ a1 _ _ _ => absurd a1 (by decide +kernel)) (fun a0 => absurd a0 (by decide +kernel))
  · exact hh (fun _ _ a2 _ _ => absurd a2 (by decide +kernel)) (fun _ _ a2 _ _ => absurd a2 (by decide +kernel)) (fun _ _ a2 _ _ => absurd a2 (by decide +kernel)) (fun _ _ a2 _ _ => absurd a2 (by decide +kernel)) (fun _ _ _ _ a4 => absurd a4 (by decide +kernel)) (fun _ _ _ _ _ => k_eq h (by decide +kernel)) (fun _ _ _ a3 _ => absurd a3 (by decide +kernel)) (fun _ _ _ a3 _ => absurd a3 (by decide +kernel)) (fun _ a1 _ _ _ => absurd a1 (by decide +kernel)) (fun _ a1 _ _ _ => absurd a1 (by decide +kernel)) (fun _ a1 _ _ _ => absurd a1 (by decide +kernel)) (fun _ a1 _ _ _ => absurd a1 (by decide +kernel)) (fun _ a1 _ _ _ => absurd a1 (by decide +kernel)) (fun _ a1 _ _ _ => absurd a1 (by decide +kernel)) (fun _ a1 _ _ _ => absurd a1 (by decide +kernel)) (fun _ a1 _ _ _ => absurd a1 (by decide +kernel)) (fun a0 => absurd a0 (by decide +kernel))
  · exact hh (fun _ _ a2 _ _ => absurd a2 (by decide +kernel)) (fun _ _ a2 _ _ => absurd a2 (by decide +kernel)) (fun _ _ a2 _ _ => absurd a2 (by decide +kernel)) (fun _ _ a2 _ _ => absurd a2 (by decide +kernel)) (fun _ _ _ _ a4 => absurd a4 (by decide +kernel)) (fun _ _ _ _ _ => k_eq h (by decide +kernel)) (fun _ _ _ a3 _ => absurd a3 (by decide +kernel)) (fun _ _ _ a3 _ => absurd a3 (by decide +kernel)) (fun _ a1 _ _ _ => absurd a1 (by decide +kernel)) (fun _ a1 _ _ _ => absurd a1 (by decide +kernel)) (fun _ a1 _ _ _ => absurd a1 (by decide +kernel)) (fun _ a1 _ _ _ => absurd a1 (by decide +kernel)) (fun _ a1 _ _ _ => absurd a1 (by decide +kernel)) (fun _ a1 _ _ _ => absurd a1 (by decide +kernel)) (fun _ a1 _ _ _ => absurd a1 (by decide +kernel)) (fun _ a1 _ _ _ => absurd a1 (by decide +kernel)) (fun a0 => absurd a0 (by decide +kernel))
  · exact hh (fun _ _ a2 _ _ => absurd a2 (by decide +kernel)) (fun _ _ a2 _ _ => absurd a2 (by decide +kernel)) (fun _ _ a2 _ _ => absurd a2 (by decide +kernel)) (fun _ _ a2 _ _ => absurd a2 (by decide +kernel)) (fun _ _ _ a3 _ => absurd a3 (by decide +kernel)) (fun _ _ _ a3 _ => absurd a3 (by decide +kernel)) (fun _ _ _ _ _ => k_eq h (by decide +kernel)) (fun _ _ _ _ a4 => absurd a4 (by decide +kernel)) (fun _ a1 _ _ _ => absurd a1 (by decide +kernel)) (fun _ a1 _ _ _ => absurd a1 (by decide +kernel)) (fun _ a1 _ _ _ => absurd a1 (by decide +kernel)) (fun _ a1 _ _ _ => absurd a1 (by decide +kernel)) (fun _ a1 _ _ _ => absurd a1 (by decide +kernel)) (fun _ a1 _ _ _ => absurd a1 (by decide +kernel)) (fun _ a1 _ _ _ => absurd a1 (by decide +kernel)) (fun _ a1 _ _ _ => absurd a1 (by decide +kernel)) (fun a0 => absurd a0 (by decide +kernel))
  · exact hh (fun _ _ a2 _ _ => absurd a2 (by decide +kernel)) (fun _ _ a2 _ _ => absurd a2 (by decide +kernel)) (fun _ _ a2 _ _ => absurd a2 (by decide +kernel)) (fun _ _ a2 _ _ => absurd a2 (by decide +kernel)) (fun _ _ _ a3 _ => absurd a3 (by decide +kernel)) (fun _ _ _ a3 _ => absurd a3 (by decide +kernel)) (fun _ _ _ _ _ => k_eq h (by decide +kernel)) (fun _ _ _ _ a4 => absurd a4 (by decide +kernel)) (fun _ a1 _ _ _ => absurd a1 (by decide +kernel)) (fun _ a1 _ _ _ => absurd a1 (by decide +kernel)) (fun _ a1 _ _ _ => absurd a1 (by decide +kernel)) (fun _ a1 _ _ _ => absurd a1 (by decide +kernel)) (fun _ a1 _ _ _ => absurd a1 (by decide +kernel)) (fun _ a1 _ _ _ => absurd a1 (by decide +kernel)) (fun _ a1 _ _ _ => absurd a1 (by decide +kernel)) (fun _ a1 _ _ _ => absurd a1 (by decide +kernel)) (fun a0 => absurd a0 (by decide +kernel))
  · exact hh (fun _ _ a2 _ _ => absurd a2 (by decide +kernel)) (fun _ _ a2 _ _ => absurd a2 (by decide +kernel)) (fun _ _ a2 _ _ => absurd a2 (by decide +kernel)) (fun _ _ a2 _ _ => absurd a2 (by decide +kernel)) (fun _ _ _ a3 _ => absurd a3 (by decide +kernel)) (fun _ _ _ a3 _ => absurd a3 (by decide +kernel)) (fun _ _ _ _ a4 => absurd a4 (by decide +kernel)) (fun _ _ _ _ _ => k_eq h (by decide +kernel)) (fun _ a1 _ _ _ => absurd a1 (by decide +kernel)) (fun _ a1 _ _ _ => absurd a1 (by decide +kernel)) (fun _ a1 _ _ _ => absurd a1 (by decide +kernel)) (fun _ a1 _ _ _ => absurd a1 (by decide +kernel)) (fun _ a1 _ _ _ => absurd a1 (by decide +kernel)) (fun _ a1 _ _ _ => absurd a1 (by decide +kernel)) (fun _ a1 _ _ _ => absurd a1 (by decide +kernel)) (fun _ a1 _ _ _ => absurd a1 (by decide +kernel)) (fun a0 => absurd a0 (by decide +kernel))
  · exact hh (fun _ _ a2 _ _ => absurd a2 (by decide +kernel)) (fun _ _ a2 _ _ => absurd a2 (by decide +kernel)) (fun _ _ a2 _ _ => absurd a2 (by decide +kernel)) (fun _ _ a2 _ _ => absurd a2 (by decide +kernel)) (fun _ _ _ a3 _ => absurd a3 (by decide +kernel)) (fun _ _ _ a3 _ => absurd a3 (by decide +kernel)) (fun _ _ _ _ a4 => absurd a4 (by decide +kernel)) (fun _ _ _ _ _ => k_eq h (by decide +kernel)) (fun _ a1 _ _ _ => absurd a1 (by decide +kernel)) (fun _ a1 _ _ _ => absurd a1 (by decide +kernel)) (fun _ a1 _ _ _ => absurd a1 (by decide +kernel)) (fun _ a1 _ _ _ => absurd a1 (by decide +kernel)) (fun _ a1 _ _ _ => absurd a1 (by decide +kernel)) (fun _ a1 _ _ _ => absurd a1 (by decide +kernel)) (fun _ a1 _ _ _ => absurd a1 (by decide +kernel)) (fun _ a1 _ _ _ => absurd a1 (by decide +kernel)) (fun a0 => absurd a0 (by decide +kernel))
  · exact hh (fun _ a1 _ _ _ => absurd a1 (by decide +kernel)) (fun _ a1 _ _ _ => absurd a1 (by decide +kernel)) (fun _ a1 _ _ _ => absurd a1 (by decide +kernel)) (fun _ a1 _ _ _ => absurd a1 (by decide +kernel)) (fun _ a1 _ _ _ => absurd a1 (by decide +kernel)) (fun _ a1 _ _ _ => absurd a1 (by decide +kernel)) (fun _ a1 _ _ _ => absurd a1 (by decide +kernel)) (fun _ a1 _ _ _ => absurd a1 (by decide +kernel)) (fun _ _ _ _ _ => k_eq h (by decide +kernel)) (fun _ _ _ _ a4 => absurd a4 (by decide +kernel)) (fun _ _ _ a3 _ => absurd a3 (by decide +kernel)) (fun _ _ _ a3 _ => absurd a3 (by decide +kernel)) (fun _ _ a2 _ _ => absurd a2 (by decide +kernel)) (fun _ _ a2 _ _ => absurd a2 (by decide +kernel)) (fun _ _ a2 _ _ => absurd a2 (by decide +kernel)) (fun _ _ a2 _ _ => absurd a2 (by decide +kernel)) (fun a0 => absurd a0 (by decide +kernel))
  · exact hh (fun _ a1 _ _ _ => absurd a1 (by decide +kernel)) (fun _ a1 _ _ _ => absurd a1 (by decide +kernel)) (fun _ a1 _ _ _ => absurd a1 (by decide +kernel)) (fun _ a1 _ _ _ => absurd a1 (by decide +kernel)) (fun _ a1 _ _ _ => absurd a1 (by decide +kernel)) (fun _ a1 _ _ _ => absurd a1 (by decide +kernel)) (fun _ a1 _ _ _ => absurd a1 (by decide +kernel)) (fun _ a1 _ _ _ => absurd a1 (by decide +kernel)) (fun _ _ _ _ _ => k_eq h (by decide +kernel)) (fun _ _ _ _ a4 => absurd a4 (by decide +kernel)) (fun _ _ _ a3 _ => absurd a3 (by decide +kernel)) (fun _ _ _ a3 _ => absurd a3 (by decide +kernel)) (fun _ _ a2 _ _ => absurd a2 (by decide +kernel)) (fun _ _ a2 _ _ => absurd a2 (by decide +kernel)) (fun _ _ a2 _ _ => absurd a2 (by decide +kernel)) (fun _ _ a2 _ _ => absurd a2 (by decide +kernel)) (fun a0 => absurd a0 (by decide +kernel))
  · exact hh (fun _ a1 _ _ _ => absurd a1 (by decide +kernel)) (fun _ a1 _ _ _ => absurd a1 (by decide +kernel)) (fun _ a1 _ _ _ => absurd a1 (by decide +kernel)) (fun _ a1 _ _ _ => absurd a1 (by decide +kernel)) (fun _ a1 _ _ _ => absurd a1 (by decide +kernel)) (fun _ a1 _ _ _ => absurd a1 (by decide +kernel)) (fun _ a1 _ _ _ => absurd a1 (by decide +kernel)) (fun _ a1 _ _ _ => absurd a1 (by decide +kernel)) (fun _ _ _ _ a4 => absurd a4 (by decide +kernel)) (fun _ _ _ _ _ => k_eq h (by decide +kernel)) (fun _ _ _ a3 _ => absurd a3 (by decide +kernel)) (fun _ _ _ a3 _ => absurd a3 (by decide +kernel)) (fun _ _ a2 _ _ => absurd a2 (by decide +kernel)) (fun _ _ a2 _ _ => absurd a2 (by decide +kernel)) (fun _ _ a2 _ _ => absurd a2 (by decide +kernel)) (fun _ _ a2 _ _ => absurd a2 (by decide +kernel)) (fun a0 => absurd a0 (by decide +kernel))
theorem z_findP (hT : zRules T) {D : Nat} {κ : Option zA → zM → Prop} {m : zM} {n v : Nat} (hB : zB m) (hn : m 75 56 = (n : Int)) (hv : v ≤ 999) (hv1 : 1 ≤ v)
    (h0 : ∀ M, zB M → zFr (inL [(90, none), (74, some 38), (74, some 39)]) m M → b_non (b_pc m) n v → κ (some (zi (-2))) M)
    (h1 : ∀ w P M, zB M → zFr (inL [(90, none), (74, some 38), (74, some 39)]) m M → b_few (b_pc m) n v w → b_best (b_pc m) n v w P → M 74 38 = (P : Int) → M 74 39 = b_sum (b_pc m) n P - v → κ (some (zi (w : Int))) M) : T (D + 3) 246 (0, [(0, zr 74), (1, zi (v : Int))], [], m) κ := by
  have b56 : 0 ≤ m 75 56 ∧ m 75 56 ≤ 20 := hB 75 56
  have n20 : n ≤ 20 := by omega
  have hp : ∀ q, q < 20 → 0 ≤ b_pc m q ∧ b_pc m q ≤ 108 := fun q hq => zSg hB 75 36 56 0 108 rfl (q + 36) (by omega) (by omega)
  have pn : 2 ^ n ≤ 2 ^ 20 := Nat.pow_le_pow_right (by omega) n20
  refine zb246_0 hT hB hv ?_
  refine z_fewest (D := D + 1) hT hB hn hv hv1 (fun M hBM hF hnon => ?_) (fun w M hBM hF hfew => ?_)
  · exact zb246_5 hT rfl hBM hv (by omega) (fun q => by omega) (fun _ => h0 M hBM (hF.sub (inL_sub (by decide))) hnon)
  have hw20 : w ≤ 20 := by have := hfew.1; omega
  refine zb246_5 hT rfl hBM hv (by omega) (fun _ hz => ?_) (fun q => by omega)
  have pw1 : 1 ≤ 2 ^ w := Nat.one_le_two_pow
  have pw : 2 ^ w ≤ 2 ^ n := Nat.pow_le_pow_right (by omega) hfew.1.2
  have pw2 : 2 ^ 1 ≤ 2 ^ w := Nat.pow_le_pow_right (by omega) hfew.1.1
  have eN : ∀ y, y < 2 ^ n → b_cnt 22 y = b_cnt n y ∧ b_sum (b_pc m) 20 y = b_sum (b_pc m) n y := fun y hy => ⟨b_cnt_ge n 22 hy (by omega), b_sum_ge n 20 hy (by omega)⟩
  have fin : ∀ (x : Nat) (M : zM), 2 ^ n ≤ x → x ≤ 2 ^ 21 → zB M → zFr (inL [(90, none), (74, some 38), (74, some 39)]) m M → b_run (b_pc m) n v w x (M 74 38) (M 74 39) → T (D + 3) 246 (23, [(0, zr 74), (1, zi (v : Int)), (2, zi (w : Int)), (3, zi (x : Int))], [], M) κ := by
    intro x M hxn hx hBM hF hI
    have e56 : M 75 56 = (n : Int) := (hF 75 56 rfl).trans hn
    have esh : z_shl 1 (M 75 56) = ((2 ^ n : Nat) : Int) := by rw [e56, z_shl1T n (by omega)]
    refine zb246_23 hT rfl hBM hv hw20 (by omega) (fun _ => ?_) (fun q => by rw [esh] at q; omega)
    rcases hI with ⟨p0, g⟩ | ⟨P, g1, g2, g3, g4, g5, g6, g7, g8⟩
    · exfalso
      obtain ⟨s, s1, s2⟩ := hfew.2.1
      have hl := b_pick_lt (f := b_pc m) n w s
      obtain ⟨o1, o2⟩ := b_pick_ok n w s s2
      have := g (b_pick (b_pc m) n w s) (by omega) (by rw [(eN _ hl).1, o1])
      rw [(eN _ hl).2, o2] at this
      omega
    · rw [(eN P g3).2] at g5 g6
      rw [(eN P g3).1] at g4
      refine h1 w P M hBM hF hfew ⟨⟨g3, g4⟩, g5, fun y y1 y2 y3 => ?_⟩ g1 g6
      have := g8 y (by omega) (by rw [(eN y y1).1]; exact y2) (by rw [(eN y y1).2]; exact y3)
      rw [(eN y y1).2, (eN P g3).2] at this
      exact this
  have main : ∀ (j x : Nat) (M : zM), 2 ^ 21 ≤ x + j → x ≤ 2 ^ 21 → 0 < x → b_cnt 22 x = w → zB M → zFr (inL [(90, none), (74, some 38), (74, some 39)]) m M → b_run (b_pc m) n v w x (M 74 38) (M 74 39) →
      T (D + 3) 246 (23, [(0, zr 74), (1, zi (v : Int)), (2, zi (w : Int)), (3, zi (x : Int))], [], M) κ := by
    intro j
    induction j with
    | zero =>
      intro x M hj hx h0x hc hBM hF hI
      exact fin x M (by omega) hx hBM hF hI
    | succ j ih =>
      intro x M hj hx h0x hc hBM hF hI
      by_cases hxn : 2 ^ n ≤ x
      · exact fin x M hxn hx hBM hF hI
      have e56 : M 75 56 = (n : Int) := (hF 75 56 rfl).trans hn
      have esh : z_shl 1 (M 75 56) = ((2 ^ n : Nat) : Int) := by rw [e56, z_shl1T n (by omega)]
      obtain ⟨hne, n1, e1, l1, l2, c1, c2⟩ := z_gos h0x (by omega)
      have nxt : ∀ M2, zB M2 → zFr (inL [(90, none), (74, some 38), (74, some 39)]) m M2 → b_run (b_pc m) n v w n1 (M2 74 38) (M2 74 39) → T (D + 3) 246 (23, [(0, zr 74), (1, zi (v : Int)), (2, zi (w : Int)), (3, zi (z_or ((x : Int) + z_and (x : Int) (-(x : Int))) (z_shr (Int.tdiv (z_xor (x : Int) ((x : Int) + z_and (x : Int) (-(x : Int)))) (z_and (x : Int) (-(x : Int)))) 2)))], [], M2) κ := fun M2 hB2 hF2 hI2 => by
        rw [e1]
        exact ih n1 M2 (by omega) (by omega) (by omega) (c1.trans hc) hB2 hF2 hI2
      have cov : ∀ y, y < n1 → b_cnt 22 y = w → y < x ∨ y = x := fun y hy hcy => by
        by_cases q1 : y < x
        · exact Or.inl q1
        · by_cases q2 : y = x
          · exact Or.inr q2
          · exact absurd (hcy.trans hc.symm) (c2 y (by omega) hy)
      have bS : ∀ y, 0 ≤ b_sum (b_pc m) 20 y ∧ b_sum (b_pc m) 20 y ≤ 2160 := fun y => by
        have := b_sum_b (f := b_pc m) (x := y) 20 hp
        omega
      have inner : ∀ y : Nat, ∀ s : Nat, y ≤ x → (s : Int) + b_sum (b_pc m) 20 y = b_sum (b_pc m) 20 x → T (D + 3) 246 (42, [(0, zr 74), (1, zi (v : Int)), (2, zi (w : Int)), (3, zi (x : Int)), (4, zi (s : Int)), (5, zi (y : Int))], [], M) κ := by
        intro y
        induction y using Nat.strongRecOn with
        | _ y ihy =>
          intro s hyx hs
          have bx := bS x
          have by2 := bS y
          by_cases y0 : y = 0
          · subst y0
            rw [b_sum_0] at hs
            refine zb246_42 hT rfl hBM hv hw20 (by omega) (by omega) (by omega) (fun _ _ => hne) (fun _ q => ?_) (fun _ _ _ => hne) (fun _ q1 q2 hz => ?_) (fun _ _ _ _ => hne) (fun _ q1 q2 q3 => ?_) (fun _ _ _ _ => hne) (fun _ q1 q2 q3 hz => ?_) (fun q => absurd rfl q)
            · refine nxt M hBM hF ?_
              rcases hI with ⟨p0, g⟩ | ⟨P, g1, g2, g3, g4, g5, g6, g7, g8⟩
              · refine Or.inl ⟨p0, fun y hy hcy => ?_⟩
                rcases cov y hy hcy with q1 | q1
                · exact g y q1 hcy
                · rw [q1]
                  omega
              · refine Or.inr ⟨P, g1, g2, g3, g4, g5, g6, by omega, fun y hy hcy hvy => ?_⟩
                rcases cov y hy hcy with q1 | q1
                · exact g8 y q1 hcy hvy
                · rw [q1] at hvy
                  omega
            · refine nxt _ hz ((hF.set rfl).set rfl) ?_
              rw [zu_off (by omega), zu_sm rfl, zu_sm rfl]
              rcases hI with ⟨p0, g⟩ | ⟨P, g1, g2, g3, g4, g5, g6, g7, g8⟩
              · refine Or.inr ⟨x, rfl, h0x, by omega, hc, by omega, by omega, l1, fun y hy hcy hvy => ?_⟩
                rcases cov y hy hcy with q3 | q3
                · have := g y q3 hcy
                  omega
                · rw [q3]
                  exact Or.inr ⟨rfl, Nat.le_refl x⟩
              · rw [g1, wr_id (by omega) (by omega)] at q2
                omega
            · refine nxt M hBM hF ?_
              rcases hI with ⟨p0, g⟩ | ⟨P, g1, g2, g3, g4, g5, g6, g7, g8⟩
              · rw [p0] at q2
                exact absurd rfl q2
              · have bP := bS P
                rw [g6, wr_id (by omega) (by omega)] at q3
                refine Or.inr ⟨P, g1, g2, g3, g4, g5, g6, by omega, fun y hy hcy hvy => ?_⟩
                rcases cov y hy hcy with q4 | q4
                · exact g8 y q4 hcy hvy
                · rw [q4]
                  omega
            · refine nxt _ hz ((hF.set rfl).set rfl) ?_
              rw [zu_off (by omega), zu_sm rfl, zu_sm rfl]
              rcases hI with ⟨p0, g⟩ | ⟨P, g1, g2, g3, g4, g5, g6, g7, g8⟩
              · rw [p0] at q2
                exact absurd rfl q2
              · have bP := bS P
                rw [g6, wr_id (by omega) (by omega)] at q3
                refine Or.inr ⟨x, rfl, h0x, by omega, hc, by omega, by omega, l1, fun y hy hcy hvy => ?_⟩
                rcases cov y hy hcy with q4 | q4
                · have := g8 y q4 hcy hvy
                  omega
                · rw [q4]
                  exact Or.inr ⟨rfl, Nat.le_refl x⟩
          · obtain ⟨k, h, hk⟩ := b_odd y (by omega)
            have p1 : 1 ≤ 2 ^ k := Nat.one_le_two_pow
            have p2 : 2 ^ k * 1 ≤ 2 ^ k * (2 * h + 1) := Nat.mul_le_mul_left _ (by omega)
            have k20 : k < 20 := (Nat.pow_lt_pow_iff_right (a := 2) (by omega)).mp (by omega)
            have ed : 2 ^ k * (2 * h + 1) = 2 ^ k * (2 * h) + 2 ^ k := by rw [Nat.mul_add, Nat.mul_one]
            have hcs := b_clear_sum (f := b_pc m) (k := k) (h := h) 20
            rw [if_pos k20, ← hk] at hcs
            have bpk := hp k k20
            refine zb246_42 hT rfl hBM hv hw20 (by omega) (by omega) (by omega) (fun q => by omega) (fun q => by omega) (fun q => by omega) (fun q => by omega) (fun q => by omega) (fun q => by omega) (fun q => by omega) (fun q => by omega) (fun _ => ?_)
            refine ntz_tab (D := D + 1) (k := k) hT k20 (by omega) (by rw [hk]; exact z_ntzv (by omega)) ?_
            refine zb246_60 hT rfl hBM hv hw20 (by omega) (by omega) (by omega) (by omega) ?_
            have e75 : M 75 (k + 36) = b_pc m k := hF 75 (k + 36) rfl
            rw [e75]
            obtain ⟨a, ha⟩ : ∃ a : Nat, (s : Int) + b_pc m k = (a : Int) := ⟨((s : Int) + b_pc m k).toNat, by omega⟩
            have ec : z_and (y : Int) ((y : Int) - 1) = ((2 ^ k * (2 * h) : Nat) : Int) := by rw [hk]; exact z_clear (by omega)
            rw [ha, ec]
            exact ihy _ (by omega) a (by omega) (by omega)
      refine zb246_23 hT rfl hBM hv hw20 (by omega) (fun q => ?_) (fun _ => inner x 0 (Nat.le_refl x) (by rw [show ((0 : Nat) : Int) = 0 from rfl, Int.zero_add]))
      rw [esh] at q
      omega
  have es : z_shl 1 ((w : Nat) : Int) - 1 = ((2 ^ w - 1 : Nat) : Int) := by rw [z_shl1T w (by omega)]; omega
  rw [es]
  refine main (2 ^ 21) (2 ^ w - 1) _ (by omega) (by omega) (by omega) (b_cnt_ones 22 (by omega)) hz ((hF.sub (inL_sub (by decide))).set rfl) ?_
  rw [zu_sm rfl]
  refine Or.inl ⟨rfl, fun y hy hcy => ?_⟩
  have h3 := b_cnt_least 22 (x := y) (by omega)
  rw [hcy] at h3
  omega
end ZFindP
