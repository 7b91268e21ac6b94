/-! THE ALMANACS read by the reference; almanac(). -/
section ZAlmR
variable {T : Nat → Nat → zG → (Option zA → zM → Prop) → Prop} {D : Nat} {κ : Option zA → zM → Prop} {m : zM} {s : Nat → Int} {L : Nat}
noncomputable def raL : zLs := [(74, some 16), (74, some 17), (82, none), (83, none)]
theorem hr_a {M : zM} {a : Nat} (hF : zFr (inL raL) m M) (h16 : M 74 16 = (a : Int)) : hrR M 80 = sgR m 80 a := by
  have e14 : M 74 14 = m 74 14 := hF 74 14 rfl
  have e15 : M 74 15 = m 74 15 := hF 74 15 rfl
  have eq : M 80 a = m 80 a := hF 80 a rfl
  unfold hrR sgR
  rw [h16, e14, e15, Int.toNat_natCast, eq]
theorem z_almCopy (hT : zRules T) {n : Nat} {M : zM} (hn : n ≤ 4) (hB : zB M)
    (h : ∀ M1, zB M1 → zFr (inL [(76, none), (77, none)]) M M1 → (∀ i, i < n → M1 77 i = M 83 i) → (∀ u, u < 26 * n → M1 76 u = M 82 u) → κ (some (zi (n : Int))) M1) : T (D + 3) 205 (205, [(0, zr 74), (1, zi (n : Int)), (3, zi 0)], [], M) κ := by
  have key : ∀ (j p : Nat) (N : zM), p + j = n → zB N → zFr (inL [(76, none), (77, none)]) M N → (∀ i, i < p → N 77 i = M 83 i) → (∀ u, u < 26 * p → N 76 u = M 82 u) → T (D + 3) 205 (205, [(0, zr 74), (1, zi (n : Int)), (3, zi (p : Int))], [], N) κ := by
    intro j
    induction j with
    | zero =>
      intro p N hp hBN hF g1 g2
      refine zb205_205 hT rfl hBN hn (by omega) (fun _ => h N hBN hF (fun i hi => g1 i (by omega)) (fun u hu => g2 u (by omega))) (fun q => by omega)
    | succ j ih =>
      intro p N hp hBN hF g1 g2
      refine zb205_205 hT rfl hBN hn (by omega) (fun q => by omega) (fun _ hz => ?_)
      have inner : ∀ (i t : Nat) (N2 : zM), t + i = 26 → zB N2 → zFr (inL [(76, none), (77, none)]) M N2 → (∀ x, x < p + 1 → N2 77 x = M 83 x) → (∀ u, u < 26 * p + t → N2 76 u = M 82 u) → T (D + 3) 205 (225, [(0, zr 74), (1, zi (n : Int)), (3, zi (p : Int)), (4, zi (t : Int))], [], N2) κ := by
        intro i
        induction i with
        | zero =>
          intro t N2 ht hB2 hF2 f1 f2
          refine zb205_225 hT rfl hB2 hn (by omega) (by omega) (fun _ => ?_) (fun q => by omega)
          exact ih (p + 1) N2 (by omega) hB2 hF2 f1 (fun u hu => f2 u (by omega))
        | succ i ih2 =>
          intro t N2 ht hB2 hF2 f1 f2
          refine zb205_225 hT rfl hB2 hn (by omega) (by omega) (fun q => by omega) (fun _ hz2 => ?_)
          refine ih2 (t + 1) _ (by omega) hz2 (hF2.set rfl) (fun x hx => ?_) (fun u hu => ?_)
          · rw [zu_dn (by omega)]
            exact f1 x hx
          · by_cases e : u = 26 * p + t
            · subst e
              rw [zu_sm rfl, hF2 82 _ rfl]
            · rw [zu_off e]
              exact f2 u (by omega)
      refine inner 26 0 _ (by omega) hz (hF.set rfl) (fun x hx => ?_) (fun u hu => ?_)
      · by_cases e : x = p
        · subst e
          rw [zu_sm rfl, hF 83 _ rfl]
        · rw [zu_off e]
          exact g1 x (by omega)
      · rw [zu_dn (by omega)]
        exact g2 u (by omega)
  exact key n 0 M (by omega) hB zFr.refl (fun i hi => by omega) (fun u hu => by omega)
theorem z_almR (hT : zRules T) (hB : zB m) (hrd : m 74 13 = 80) (hsd : s = sgR m 80) (hL : m 74 14 = (L : Int)) (hL80 : L ≤ 80) (hs : ∀ a, L ≤ a → s a = -1) (h16 : m 74 16 = 0) (h17 : m 74 17 = -1)
    (h1 : ∀ x M1, almP s L 4 0 0 = .inl x → zB M1 → zFr (inL raL) m M1 → κ (some (zi (-1 - (x : Int)))) M1)
    (h2 : ∀ n M1, almP s L 4 0 0 = .inr n → n ≤ 4 → zB M1 → zFr (inL [(74, some 16), (74, some 17), (74, some 1), (82, none), (83, none), (76, none), (77, none)]) m M1 → M1 74 1 = (n : Int) → (∀ i, i < n → placeOK s (M1 77) (M1 76) i) → κ (some (zi (n : Int))) M1) : T (D + 3) 205 (28, [(0, zr 74), (1, zi 0), (2, zi 1)], [], m) κ := by
  have hlt : ∀ a, ¬ s a = -1 → a < L := fun a h => by
    rcases Nat.lt_or_ge a L with q | q
    · exact q
    · exact absurd (hs a q) h
  -- at fault
  have bad : ∀ (x n : Nat) (mo : Int) (N : zM), almP s L 4 0 0 = .inl x → x ≤ L → n ≤ 5 → (0 ≤ mo ∧ mo ≤ 1) → zB N → zFr (inL raL) m N → N 74 17 = (x : Int) → (0 ≤ N 74 16 ∧ N 74 16 ≤ 80) → T (D + 3) 205 (28, [(0, zr 74), (1, zi (n : Int)), (2, zi mo)], [], N) κ := by
    intro x n mo N hx hxL hn hmo hBN hFN g17 g16
    have := h1 x N hx hBN hFN
    rw [← g17] at this
    exact zb205_28f hT rfl hBN ((hFN 74 13 rfl).trans hrd) hn hmo (by omega) g16 (fun _ _ => this) (fun _ _ => this) (fun _ _ => this) (fun _ _ => this)
  have key : ∀ (j p : Nat) (M : zM), p + j = 4 → stA s p ≤ L → almP s L j p (stA s p) = almP s L 4 0 0 → zB M → zFr (inL raL) m M → M 74 16 = (stA s p : Int) → M 74 17 = -1 → (∀ i, i < p → placeOK s (M 83) (M 82) i) → T (D + 3) 205 (28, [(0, zr 74), (1, zi (p : Int)), (2, zi 1)], [], M) κ := by
    intro j
    induction j with
    | zero =>
      intro p M hp hst hal hBM hF g16 g17 hpl
      have ep : p = 4 := by omega
      subst ep
      rw [almP] at hal
      refine zb205_28c hT rfl hBM ((hF 74 13 rfl).trans hrd) (by omega) (by omega) (fun hz => ?_)
      have c17 : (zu M 74 17 (M 74 16)) 74 17 = (stA s 4 : Int) := by rw [zu_sm rfl]; exact g16
      have c16 : (zu M 74 17 (M 74 16)) 74 16 = (stA s 4 : Int) := by rw [zu_off (by omega)]; exact g16
      refine zb205_54f (n := 4) (k := 0) hT rfl hz ((hF 74 13 rfl).trans hrd) (by omega) (by omega) (by omega) (by omega) (fun q => absurd rfl q) (fun _ => ?_)
      exact bad _ 5 0 _ hal.symm hst (by omega) (by omega) hz (hF.set rfl) c17 (by omega)
    | succ j ih =>
      intro p M hp hst hal hBM hF g16 g17 hpl
      rw [almP] at hal
      have hdL := dgc_L hs 26 (stA s p) hst
      have hd26 := dgc_le (s := s) 26 (stA s p)
      refine zb205_28b hT rfl hBM ((hF 74 13 rfl).trans hrd) (by omega) (by omega) (by omega) ?_
      -- behind the digits
      have fin : ∀ N : zM, zB N → zFr (inL raL) m N → N 74 16 = ((stA s p + dgc s 26 (stA s p) : Nat) : Int) → N 74 17 = -1 → (∀ t, t < dgc s 26 (stA s p) → N 82 (26 * p + t) = s (stA s p + t) - 48) → (∀ u, u < 26 * p → N 82 u = M 82 u) → N 83 = M 83 → (dgc s 26 (stA s p) < 26 → ¬ (48 ≤ s (stA s p + dgc s 26 (stA s p)) ∧ s (stA s p + dgc s 26 (stA s p)) ≤ 57)) → T (D + 3) 205 (54, [(0, zr 74), (1, zi (p : Int)), (3, zi ((dgc s 26 (stA s p) : Nat) : Int))], [], N) κ := by
        intro N hBN hFN f16 f17 f1 f2 f3 f4
        generalize hd : dgc s 26 (stA s p) = d at *
        have hr : hrR N 80 = s (stA s p + d) := by rw [hsd]; exact hr_a hFN (by rw [← hsd]; exact f16)
        have hr2 : hrR (zu N 83 p (d : Int)) 80 = s (stA s p + d) := by rw [hsd]; exact hr_a (hFN.set rfl) (by rw [← hsd]; exact f16)
        have b14 : N 74 14 = (L : Int) := by rw [hFN 74 14 rfl]; exact hL
        have c17 : (zu N 74 17 (N 74 16)) 74 17 = ((stA s p + d : Nat) : Int) := by rw [zu_sm rfl]; exact f16
        have c16 : (zu N 74 17 (N 74 16)) 74 16 = ((stA s p + d : Nat) : Int) := by rw [zu_off (by omega)]; exact f16
        have new : 1 ≤ d → ∀ i, i < p + 1 → placeOK s ((zu N 83 p (d : Int)) 83) (N 82) i := fun hd1 i hi => by
          by_cases e : i = p
          · subst e
            exact ⟨by rw [zu_sm rfl, hd], by rw [hd]; exact hd1, by rw [hd]; exact f1⟩
          · obtain ⟨a1, a2, a3⟩ := hpl i (by omega)
            have hi26 := dgc_le (s := s) 26 (stA s i)
            exact ⟨by rw [zu_off (by omega), f3]; exact a1, a2, fun t ht => by rw [f2 _ (by omega)]; exact a3 t ht⟩
        have zero : d = 0 → zB (zu N 74 17 (N 74 16)) → T (D + 3) 205 (28, [(0, zr 74), (1, zi ((p : Int) + 1)), (2, zi 0)], [], zu N 74 17 (N 74 16)) κ := by
          intro h0 hz
          rw [if_pos h0] at hal
          refine bad (stA s p) (p + 1) 0 _ hal.symm hst (by omega) (by omega) hz (hFN.set rfl) ?_ (by omega)
          rw [c17]
          omega
        have slash : 1 ≤ d → s (stA s p + d) = 47 → zB (zu (zu N 83 p (d : Int)) 74 16 (N 74 16 + 1)) → T (D + 3) 205 (28, [(0, zr 74), (1, zi ((p : Int) + 1)), (2, zi 1)], [], zu (zu N 83 p (d : Int)) 74 16 (N 74 16 + 1)) κ := by
          intro hd1 h47 hz
          have hL2 := hlt (stA s p + d) (by omega)
          rw [if_neg (by omega), if_neg (by omega), if_pos h47] at hal
          refine ih (p + 1) _ (by omega) (by rw [stA, hd]; omega) (by rw [stA, hd]; exact hal) hz ((hFN.set rfl).set rfl) ?_ ?_ (fun i hi => ?_)
          · rw [zu_sm rfl, f16, stA, hd]
            omega
          · rw [zu_off (by omega), zu_dn (by omega)]
            exact f17
          · obtain ⟨a1, a2, a3⟩ := new hd1 i hi
            refine ⟨?_, a2, fun t ht => ?_⟩
            · rw [zu_dn (by omega)]
              exact a1
            · rw [zu_dn (by omega), zu_dn (by omega)]
              exact a3 t ht
        have other : 1 ≤ d → ¬ s (stA s p + d) = 47 → zB (zu N 83 p (d : Int)) → T (D + 3) 205 (28, [(0, zr 74), (1, zi ((p : Int) + 1)), (2, zi 0)], [], zu N 83 p (d : Int)) κ := by
          intro hd1 h47 hz
          have e14 : (zu N 83 p (d : Int)) 74 14 = (L : Int) := b14
          have e16 : (zu N 83 p (d : Int)) 74 16 = ((stA s p + d : Nat) : Int) := f16
          have e17 : (zu N 83 p (d : Int)) 74 17 = -1 := f17
          rw [if_neg (by omega)] at hal
          refine zb205_28a (n := p + 1) hT rfl hz ((hFN 74 13 rfl).trans hrd) (by omega) (by omega) (by omega) (fun q hz2 => ?_) (fun q hz2 => ?_)
          · rw [if_pos (by omega)] at hal
            refine z_almCopy hT (by omega) hz2 (fun M1 hB1 hF1 k1 k2 => ?_)
            refine h2 (p + 1) M1 hal.symm (by omega) hB1 ?_ ?_ (fun i hi => ?_)
            · exact (((hFN.set (q := 83) (i := p) (v := (d : Int)) rfl).sub (inL_sub (by decide))).set rfl).trans (hF1.sub (inL_sub (by decide)))
            · rw [hF1 74 1 rfl, zu_sm rfl]
            · obtain ⟨a1, a2, a3⟩ := new hd1 i hi
              have hi26 := dgc_le (s := s) 26 (stA s i)
              refine ⟨?_, a2, fun t ht => ?_⟩
              · rw [k1 i hi, zu_dn (by omega)]
                exact a1
              · rw [k2 _ (by omega), zu_dn (by omega), zu_dn (by omega)]
                exact a3 t ht
          · rw [if_neg (by omega), if_neg h47] at hal
            have := h1 _ _ hal.symm hz2 ((hFN.set (q := 83) (i := p) (v := (d : Int)) rfl).set rfl)
            rw [← e16] at this
            exact this
        refine zb205_54 hT rfl hBN ((hFN 74 13 rfl).trans hrd) (by omega) (by omega) (by omega) (by omega) (fun q1 q2 q3 hz => ?_) (fun q1 q2 q3 hz => ?_) (fun q1 q2 hz => ?_) (fun q1 q2 q3 q4 hz => ?_) (fun q1 q2 q3 q4 hz => ?_) (fun q1 q2 q3 hz => ?_) (fun q1 q2 q3 hz => ?_) (fun q1 q2 q3 hz => ?_)
        · rw [hr2] at q3
          exact slash (by omega) q3 hz
        · rw [hr2] at q3
          exact other (by omega) q3 hz
        · exact zero (by omega) hz
        · rw [hr2] at q4
          exact slash (by omega) q4 hz
        · rw [hr2] at q4
          exact other (by omega) q4 hz
        · exact zero (by omega) hz
        · rw [hr] at q1 q2
          have := f4 (by omega)
          omega
        · rw [hr] at q1 q2
          have hL2 := hlt (stA s p + d) (by omega)
          rw [if_neg (by omega), if_neg (by omega), if_neg (by omega)] at hal
          refine zb205_54f hT rfl hz ((hFN 74 13 rfl).trans hrd) (by omega) (by omega) (by omega) (by omega) (fun _ => ?_) (fun q => by omega)
          exact bad _ (p + 1) 0 _ hal.symm (by omega) (by omega) (by omega) hz (hFN.set rfl) c17 (by omega)
      have digits : ∀ (i t : Nat) (N : zM), t + i = 26 → t + dgc s i (stA s p + t) = dgc s 26 (stA s p) → stA s p + t ≤ L → zB N → zFr (inL raL) m N → N 74 16 = ((stA s p + t : Nat) : Int) → N 74 17 = -1 → (∀ u, u < t → N 82 (26 * p + u) = s (stA s p + u) - 48) → (∀ u, u < 26 * p → N 82 u = M 82 u) → N 83 = M 83 → T (D + 3) 205 (54, [(0, zr 74), (1, zi (p : Int)), (3, zi (t : Int))], [], N) κ := by
        intro i
        induction i with
        | zero =>
          intro t N ht hd hat hBN hFN f16 f17 f1 f2 f3
          rw [dgc] at hd
          have et : t = dgc s 26 (stA s p) := by omega
          subst et
          exact fin N hBN hFN f16 f17 f1 f2 f3 (fun q => by omega)
        | succ i ih2 =>
          intro t N ht hd hat hBN hFN f16 f17 f1 f2 f3
          rw [dgc] at hd
          have hr : hrR N 80 = s (stA s p + t) := by rw [hsd]; exact hr_a hFN (by rw [← hsd]; exact f16)
          by_cases q : 48 ≤ s (stA s p + t) ∧ s (stA s p + t) ≤ 57
          · rw [if_pos q] at hd
            have hL2 := hlt (stA s p + t) (by omega)
            refine zb205_54 hT rfl hBN ((hFN 74 13 rfl).trans hrd) (by omega) (by omega) (by omega) (by omega) (fun x => by omega) (fun x => by omega) (fun x => by omega) (fun _ x => by omega) (fun _ x => by omega) (fun _ x => by omega) (fun _ _ _ hz => ?_) (fun _ _ x => by omega)
            rw [hr] at hz ⊢
            refine ih2 (t + 1) _ (by omega) (by rw [show stA s p + (t + 1) = stA s p + t + 1 by omega]; omega) (by omega) hz ((hFN.set rfl).set rfl) ?_ ?_ (fun u hu => ?_) (fun u hu => ?_) ?_
            · rw [zu_sm rfl]
              omega
            · rw [zu_off (by omega), zu_dn (by omega)]
              exact f17
            · rw [zu_dn (by omega)]
              by_cases e : u = t
              · subst e
                rw [zu_sm rfl]
              · rw [zu_off (by omega)]
                exact f1 u (by omega)
            · rw [zu_dn (by omega), zu_off (by omega)]
              exact f2 u hu
            · rw [zu_dnR (by omega), zu_dnR (by omega)]
              exact f3
          · rw [if_neg q] at hd
            have et : t = dgc s 26 (stA s p) := by omega
            rw [et] at f16 f1 q ⊢
            exact fin N hBN hFN f16 f17 f1 f2 f3 (fun _ => q)
      exact digits 26 0 M (by omega) (by rw [Nat.zero_add]; rfl) (by omega) hBM hF (by rw [g16]; omega) g17 (fun u hu => by omega) (fun _ _ => rfl) rfl
  exact key 4 0 m (by omega) (by rw [stA]; omega) rfl hB zFr.refl (by rw [h16]; rfl) h17 (fun i hi => by omega)
end ZAlmR
