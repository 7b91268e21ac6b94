/-! THE ALMANACS: what is read. -/
noncomputable def dgc (s : Nat → Int) : Nat → Nat → Nat
  | 0, _ => 0
  | c + 1, a => if 48 ≤ s a ∧ s a ≤ 57 then dgc s c (a + 1) + 1 else 0
/-- where PLACE i begins -/
noncomputable def stA (s : Nat → Int) : Nat → Nat
  | 0 => 0
  | i + 1 => stA s i + dgc s 26 (stA s i) + 1
noncomputable def almP (s : Nat → Int) (L : Nat) : Nat → Nat → Nat → Nat ⊕ Nat
  | 0, _, a => .inl a
  | j + 1, n, a => if dgc s 26 a = 0 then .inl a else if a + dgc s 26 a = L then .inr (n + 1) else if s (a + dgc s 26 a) = 47 then almP s L j (n + 1) (a + dgc s 26 a + 1) else .inl (a + dgc s 26 a)
theorem dgc_le {s : Nat → Int} : ∀ (c a : Nat), dgc s c a ≤ c
  | 0, a => Nat.le_refl 0
  | c + 1, a => by
    rw [dgc]
    split
    · have := dgc_le (s := s) c (a + 1)
      omega
    · omega
theorem dgc_L {s : Nat → Int} {L : Nat} (hs : ∀ a, L ≤ a → s a = -1) : ∀ (c a : Nat), a ≤ L → a + dgc s c a ≤ L
  | 0, a, h => h
  | c + 1, a, h => by
    rw [dgc]
    split
    · rename_i q
      have hL : a < L := by
        rcases Nat.lt_or_ge a L with x | x
        · exact x
        · have := hs a x
          omega
      have := dgc_L hs c (a + 1) (by omega)
      omega
    · omega
/-- PLACE i as told -/
noncomputable def placeOK (s : Nat → Int) (wk lt : Nat → Int) (i : Nat) : Prop := wk i = (dgc s 26 (stA s i) : Int) ∧ 1 ≤ dgc s 26 (stA s i) ∧ ∀ t, t < dgc s 26 (stA s i) → lt (26 * i + t) = s (stA s i + t) - 48
section ZAlm
variable {T : Nat → Nat → zG → (Option zA → zM → Prop) → Prop} {D : Nat} {κ : Option zA → zM → Prop} {m : zM} {s : Nat → Int} {L : Nat}
noncomputable def rdL : zLs := [(2, some 3), (7, none), (8, none)]
theorem nx_r {M : zM} {a : Nat} (hF : zFr (inL rdL) m M) (h : M 2 3 = (a : Int)) : nxC M = sgC m a := by
  have e1 : M 2 2 = m 2 2 := hF 2 2 rfl
  have e2 : M 3 a = m 3 a := hF 3 a rfl
  unfold nxC sgC
  rw [h, e1, Int.toNat_natCast, e2]
theorem z_readDigits (hT : zRules T) (hsd : s = sgC m) (hL : L ≤ 80) (hs : ∀ a, L ≤ a → s a = -1) {p a : Nat} {M : zM} (hp : p ≤ 3) (hBM : zB M) (hF : zFr (inL rdL) m M) (h23 : M 2 3 = (a : Int)) (ha : a ≤ L)
    (h : ∀ M1, zB M1 → zFr (inL rdL) m M1 → M1 2 3 = ((a + dgc s 26 a : Nat) : Int) → (∀ t, t < dgc s 26 a → M1 7 (26 * p + t) = s (a + t) - 48) → (∀ j, j < 26 * p → M1 7 j = M 7 j) → M1 8 = M 8 → κ (some (zi (dgc s 26 a : Int))) M1) : T (D + 3) 3 (0, [(0, zr 4), (1, zr 2), (2, zi ((p : Int) * 26))], [], M) κ := by
  have hlt : ∀ a, ¬ s a = -1 → a < L := fun a h => by
    rcases Nat.lt_or_ge a L with q | q
    · exact q
    · exact absurd (hs a q) h
  have key : ∀ (j t : Nat) (N : zM), t + j = 26 → t + dgc s j (a + t) = dgc s 26 a → a + t ≤ L → zB N → zFr (inL rdL) m N → N 2 3 = ((a + t : Nat) : Int) → (∀ u, u < t → N 7 (26 * p + u) = s (a + u) - 48) → (∀ u, u < 26 * p → N 7 u = M 7 u) → N 8 = M 8 → T (D + 3) 3 (2, [(0, zr 4), (1, zr 2), (2, zi ((26 * p : Nat) : Int)), (3, zi (t : Int))], [], N) κ := by
    intro j
    induction j with
    | zero =>
      intro t N ht hd hat hBN hFN g1 g2 g3 g4
      rw [dgc] at hd
      refine zb3_2 hT rfl hBN (by omega) (by omega) (by omega) (fun _ => ?_) (fun q => by omega) (fun q => by omega) (fun q => by omega)
      have := h N hBN hFN (by rw [g1]; omega) (fun u hu => g2 u (by omega)) g3 g4
      rw [← hd, show ((t + 0 : Nat) : Int) = 26 by omega] at this
      exact this
    | succ j ih =>
      intro t N ht hd hat hBN hFN g1 g2 g3 g4
      have hr : nxC N = s (a + t) := by rw [hsd]; exact nx_r hFN g1
      rw [dgc] at hd
      have stop : ¬ (48 ≤ s (a + t) ∧ s (a + t) ≤ 57) → κ (some (zi (t : Int))) N := by
        intro hno
        rw [if_neg hno] at hd
        have := h N hBN hFN (by rw [g1]; omega) (fun u hu => g2 u (by omega)) g3 g4
        rw [← hd] at this
        exact this
      refine zb3_2 hT rfl hBN (by omega) (by omega) (by omega) (fun q => by omega) (fun _ q => stop (by omega)) (fun _ q1 q2 hz => ?_) (fun _ q1 q2 => stop (by omega))
      rw [hr] at q1 q2 hz ⊢
      rw [if_pos (by omega)] at hd
      have haL := hlt (a + t) (by omega)
      refine ih (t + 1) _ (by omega) (by rw [show a + (t + 1) = a + t + 1 by omega]; omega) (by omega) hz ((hFN.set rfl).set rfl) ?_ (fun u hu => ?_) (fun u hu => ?_) ?_
      · rw [zu_dn (by omega), zu_sm rfl]
        omega
      · by_cases e : u = t
        · subst e
          rw [zu_sm rfl]
        · rw [zu_off (by omega), zu_dn (by omega)]
          exact g2 u (by omega)
      · rw [zu_off (by omega), zu_dn (by omega)]
        exact g3 u hu
      · rw [zu_dnR (by omega), zu_dnR (by omega)]
        exact g4
  rw [show (p : Int) * 26 = ((26 * p : Nat) : Int) by omega]
  exact zb3_0 hT (by omega) (key 26 0 M (by omega) (by rw [Nat.zero_add]; rfl) (by omega) hBM hF (by rw [h23]; omega) (fun u hu => by omega) (fun _ _ => rfl) rfl)
noncomputable def rpL : zLs := [(2, some 3), (4, some 4), (5, none), (6, none), (7, none), (8, none)]
theorem z_readPlaces (hT : zRules T) (hB : zB m) (hsd : s = sgC m) (hL : m 2 1 = (L : Int)) (hL80 : L ≤ 80) (hs : ∀ a, L ≤ a → s a = -1) (h0 : m 2 3 = 0)
    (h1 : ∀ x M1, almP s L 4 0 0 = .inl x → zB M1 → zFr (inL rdL) m M1 → M1 2 3 = (x : Int) → κ (some (zi (-1))) M1)
    (h2 : ∀ n M1, almP s L 4 0 0 = .inr n → n ≤ 4 → zB M1 → zFr (inL rpL) m M1 → M1 4 4 = (n : Int) → (∀ i, i < n → placeOK s (M1 6) (M1 5) i) → κ (some (zi (n : Int))) M1) : T (D + 4) 2 (0, [(0, zr 4), (1, zr 2)], [], m) κ := by
  have key : ∀ (j p : Nat) (M : zM), p + j = 4 → stA s p ≤ L → almP s L j p (stA s p) = almP s L 4 0 0 → zB M → zFr (inL rdL) m M → M 2 3 = (stA s p : Int) → (∀ i, i < p → placeOK s (M 8) (M 7) i) → T (D + 4) 2 (2, [(0, zr 4), (1, zr 2), (2, zi (p : Int))], [], M) κ := by
    intro j
    induction j with
    | zero =>
      intro p M hp hst hal hBM hF h23 hpl
      rw [almP] at hal
      exact zb2_2 hT rfl hBM (by omega) (fun _ => h1 _ M hal.symm hBM hF h23) (fun q => by omega)
    | succ j ih =>
      intro p M hp hst hal hBM hF h23 hpl
      refine zb2_2 hT rfl hBM (by omega) (fun q => by omega) (fun _ => ?_)
      refine z_readDigits hT hsd hL80 hs (by omega) hBM hF h23 hst (fun M1 hB1 hF1 g1 g2 g3 g4 => ?_)
      rw [almP] at hal
      have hdL := dgc_L hs 26 (stA s p) hst
      have hd26 := dgc_le (s := s) 26 (stA s p)
      have e21 : M1 2 1 = (L : Int) := by rw [hF1 2 1 rfl]; exact hL
      have hF2 : zFr (inL rdL) m (zu M1 8 p ((dgc s 26 (stA s p) : Nat) : Int)) := hF1.set rfl
      have hr : nxC (zu M1 8 p ((dgc s 26 (stA s p) : Nat) : Int)) = s (stA s p + dgc s 26 (stA s p)) := by
        rw [hsd]
        refine nx_r (by rw [← hsd]; exact hF2) ?_
        rw [← hsd]
        exact g1
      have c23 : (zu M1 8 p ((dgc s 26 (stA s p) : Nat) : Int)) 2 3 = ((stA s p + dgc s 26 (stA s p) : Nat) : Int) := g1
      have old : ∀ i, i < p → placeOK s ((zu M1 8 p ((dgc s 26 (stA s p) : Nat) : Int)) 8) (M1 7) i := fun i hi => by
        obtain ⟨a1, a2, a3⟩ := hpl i hi
        have hi26 := dgc_le (s := s) 26 (stA s i)
        refine ⟨?_, a2, fun t ht => ?_⟩
        · rw [zu_off (by omega), g4]
          exact a1
        · rw [g3 _ (by omega)]
          exact a3 t ht
      refine zb2_21 hT rfl hB1 (by omega) (by omega) (by omega) (fun q1 q2 q3 hz => ?_) (fun q1 q2 q3 hz => ?_) (fun q1 q2 => ?_) (fun q1 hz => ?_)
      · rw [hr] at q3
        rw [if_neg (by omega), if_neg (by omega), if_pos q3] at hal
        have hlt : stA s p + dgc s 26 (stA s p) < L := by
          rcases Nat.lt_or_ge (stA s p + dgc s 26 (stA s p)) L with x | x
          · exact x
          · have := hs _ x
            omega
        refine ih (p + 1) _ (by omega) (by rw [stA]; omega) (by rw [stA]; exact hal) hz (hF2.set rfl) ?_ (fun i hi => ?_)
        · rw [zu_sm rfl, g1, stA]
          omega
        · by_cases e : i = p
          · subst e
            refine ⟨?_, by omega, fun t ht => ?_⟩
            · rw [zu_dn (by omega), zu_sm rfl]
            · rw [zu_dn (by omega), zu_dn (by omega)]
              exact g2 t ht
          · obtain ⟨a1, a2, a3⟩ := old i (by omega)
            refine ⟨?_, a2, fun t ht => ?_⟩
            · rw [zu_dn (by omega)]
              exact a1
            · rw [zu_dn (by omega), zu_dn (by omega)]
              exact a3 t ht
      · rw [hr] at q3
        rw [if_neg (by omega), if_neg (by omega), if_neg q3] at hal
        exact h1 _ _ hal.symm hz hF2 c23
      · rw [if_neg (by omega), if_pos (by omega)] at hal
        have new : ∀ i, i < p + 1 → placeOK s ((zu M1 8 p ((dgc s 26 (stA s p) : Nat) : Int)) 8) (M1 7) i := fun i hi => by
          by_cases e : i = p
          · subst e
            exact ⟨by rw [zu_sm rfl], by omega, g2⟩
          · exact old i (by omega)
        have hz : zB (zu (z_cp (z_cp (zu M1 8 p ((dgc s 26 (stA s p) : Nat) : Int)) 7 5 0 0 (26 * p + 26)) 8 6 0 0 (p + 1)) 4 4 ((p : Int) + 1)) := by
          refine zB_u (zB_cp (zB_cp (zB_u hB1 (show 0 ≤ ((dgc s 26 (stA s p) : Nat) : Int) ∧ ((dgc s 26 (stA s p) : Nat) : Int) ≤ 26 by omega)) (fun j _ _ => ?_)) (fun j _ _ => ?_)) (show 0 ≤ (p : Int) + 1 ∧ (p : Int) + 1 ≤ 4 by omega)
          · rw [zu_dn (by omega)]
            exact hB1 7 _
          · rw [z_cp_dn (by omega)]
            exact (zB_u (i := p) hB1 (show 0 ≤ ((dgc s 26 (stA s p) : Nat) : Int) ∧ ((dgc s 26 (stA s p) : Nat) : Int) ≤ 26 by omega) : zB (zu M1 8 p ((dgc s 26 (stA s p) : Nat) : Int))) 8 _
        refine h2 (p + 1) _ hal.symm (by omega) hz ?_ ?_ (fun i hi => ?_)
        · exact (zFr.cp (zFr.cp (hF2.sub (inL_sub (by decide))) (fun _ => rfl)) (fun _ => rfl)).set rfl
        · rw [zu_sm rfl]
          omega
        · obtain ⟨a1, a2, a3⟩ := new i hi
          have hi26 := dgc_le (s := s) 26 (stA s i)
          refine ⟨?_, a2, fun t ht => ?_⟩
          · rw [zu_dn (by omega), z_cp_in (by omega), z_cp_dn (by omega), Nat.zero_add, Nat.sub_zero]
            exact a1
          · rw [zu_dn (by omega), z_cp_dn (by omega), z_cp_in (by omega), zu_dn (by omega), Nat.zero_add, Nat.sub_zero]
            exact a3 t ht
      · rw [if_pos (by omega)] at hal
        refine h1 _ _ hal.symm hz hF2 ?_
        rw [c23]
        omega
  exact zb2_0 hT (key 4 0 m (by omega) (by rw [stA]; omega) rfl hB zFr.refl (by rw [h0]; rfl) (fun i hi => by omega))
end ZAlm
