/-! way(): its text by both, and its answer. -/
/-- what the reading answers: from the sign i on, at most j of them -/
noncomputable def rwF (g : Nat → Int) (L : Nat) : Nat → Nat → Int
  | 0, i => -1 - (i : Int)
  | j + 1, i => if i < L ∧ i < 26 ∧ 48 ≤ g i ∧ g i ≤ 51 then rwF g L j (i + 1) else if i = L ∧ 0 < i then 0 else -1 - (i : Int)
theorem rwF_le {g : Nat → Int} {L : Nat} : ∀ j i : Nat, -100 ≤ -1 - ((i + j : Nat) : Int) → -100 ≤ rwF g L j i ∧ rwF g L j i ≤ 0
  | 0, i, h => by
    rw [rwF]
    omega
  | j + 1, i, h => by
    rw [rwF]
    split
    · exact rwF_le j (i + 1) (by omega)
    · split <;> omega
noncomputable def rwR (g : Nat → Int) (L n : Nat) (v : Int) : Int := if 0 ≤ v ∧ v < (n : Int) then rwF g L 27 0 else -100
theorem rwR_le {g : Nat → Int} {L n : Nat} {v : Int} : -100 ≤ rwR g L n v ∧ rwR g L n v ≤ 0 := by
  unfold rwR
  split
  · exact rwF_le 27 0 (by omega)
  · omega
/-- the law of one in the k-th week of its way -/
noncomputable def lwv (m : zM) (p q : Nat) : Int := LW m (m 18 p) (p : Int) (m 80 q - 48).toNat (m 17 11 + q)
section ZWayX
variable {T : Nat → Nat → zG → (Option zA → zM → Prop) → Prop} {B : Int}
theorem z_findTakenN (hT : zRules T) {D : Nat} {κ : Option zA → zM → Prop} {m : zM} {N : Nat} (hB : zB m) (hN : m 74 49 = (N : Int)) (hN2 : N ≤ 26) (hk : ∀ (c : Nat) M, (c : Int) = y_want (m 97) (tkT m) (m 79 0) (N : Int) ((0 : Nat) : Int) → c ≤ N → zB M → zFr (inL [(98, none)]) m M → y_want (m 97) (tkT M) (m 79 0) (N : Int) (c : Int) ≤ 0 → κ (some (zi (c : Int))) M) : T (D + 5) 270 (0, [(0, zr 74)], [], m) κ := by
  have b79 : 0 ≤ m 79 0 ∧ m 79 0 ≤ 9 := hB 79 0
  have hL : ∀ k : Nat, (k : Int) < (N : Int) → 0 ≤ m 97 k ∧ m 97 k ≤ 99 := fun k _ => hB 97 k
  have wB := y_wantB (m 97) (tkT m) (m 79 0) (N : Int) ((0 : Nat) : Int)
  have wN := y_wantN (m 97) (tkT m) (m 79 0) ((0 : Nat) : Int) (n := (N : Int)) (by omega)
  refine zb270_0 (D := D) hT hB ?_
  refine z_wanting (q := 0) hT hB (by omega) hN (by omega) ?_
  generalize hmany : y_want (m 97) (tkT m) (m 79 0) (N : Int) ((0 : Nat) : Int) = many at wB wN ⊢
  obtain ⟨n, rfl⟩ : ∃ n : Nat, many = (n : Int) := ⟨many.toNat, by omega⟩
  refine zb270_5 (D := D) hT rfl hB (by omega) ?_
  have head : ∀ (j i : Nat) (a : Int) (M : zM), i + j = n → (0 ≤ a ∧ a ≤ 108 + i) → zB M → zFr (inL [(98, none)]) m M → y_want (m 97) (tkT M) (m 79 0) (N : Int) (i : Int) ≤ (n : Int) - i → (∀ v, y_A (m 97) (tkT M) (m 79 0) (N : Int) (i : Int) v → a ≤ v + m 79 0) → T (D + 5) 270 (10, [(0, zr 74), (1, zi (n : Int)), (2, zi a), (3, zi (i : Int))], [], M) κ := by
    intro j
    induction j with
    | zero =>
      intro i a M hi ha hBM hF hw hu
      exact zb270_10 (D := D) hT rfl hBM (by omega) (by omega) (by omega) (fun _ => hk n M hmany.symm (by omega) hBM hF (by
        have e : i = n := by omega
        rw [e] at hw
        omega)) (fun x => by omega) (fun x => by omega)
    | succ j ih =>
      intro i a M hi ha hBM hF hw hu
      refine zb270_10 (D := D) hT rfl hBM (by omega) (by omega) (by omega) (fun x => by omega) (fun _ => by omega) (fun _ hz => ?_)
      have inner : ∀ (r : Nat) (M : zM), (108 - M 98 i).toNat = r → (0 ≤ M 98 i ∧ M 98 i ≤ 108 + i) → zB M → zFr (inL [(98, none)]) m M → y_want (m 97) (tkT M) (m 79 0) (N : Int) (i : Int) ≤ (n : Int) - i → (∀ v, y_A (m 97) (tkT M) (m 79 0) (N : Int) (i : Int) v → M 98 i ≤ v + m 79 0) → T (D + 5) 270 (22, [(0, zr 74), (1, zi (n : Int)), (3, zi (i : Int))], [], M) κ := by
        intro r
        induction r using Nat.strongRecOn with
        | ind r ihr =>
          intro M hr hTi hBM hF hw hu
          have eT : tkT M i = M 98 i := wr_id (by omega) (by omega)
          have e97 : M 97 = m 97 := funext fun j => hF 97 j rfl
          have e79 : M 79 0 = m 79 0 := hF 79 0 rfl
          refine zb270_22 (D := D) hT rfl hBM (by omega) (by omega) ?_
          rw [show (i : Int) + 1 = ((i + 1 : Nat) : Int) by omega]
          refine z_wanting (q := i + 1) hT hBM (by omega) ((hF 74 49 rfl).trans hN) (by omega) ?_
          rw [e97, e79]
          have w1 := y_wantB (m 97) (tkT M) (m 79 0) (N : Int) ((i + 1 : Nat) : Int)
          generalize hw1 : y_want (m 97) (tkT M) (m 79 0) (N : Int) ((i + 1 : Nat) : Int) = w at w1 ⊢
          obtain ⟨w', rfl⟩ : ∃ w' : Nat, w = (w' : Int) := ⟨w.toNat, by omega⟩
          rw [show ((i + 1 : Nat) : Int) = (i : Int) + 1 by omega] at hw1
          refine zb270_29 (D := D) hT rfl hBM (by omega) (by omega) (by omega) (by omega) (fun x => ?_) (fun x hz2 => ?_)
          · refine ih (i + 1) _ M (by omega) (by omega) hBM hF ?_ (fun v hv => ?_)
            · rw [show ((i + 1 : Nat) : Int) = (i : Int) + 1 by omega, hw1]
              omega
            · rw [show ((i + 1 : Nat) : Int) = (i : Int) + 1 by omega] at hv
              have h1 := y_next (fun v hv => by rw [eT]; exact hu v hv) b79.1 v hv
              rw [eT] at h1
              exact h1
          · obtain ⟨s1, s2⟩ := y_stop (many := (n : Int)) b79 hL (by omega) hw (fun v hv => by rw [eT]; exact hu v hv) (by rw [hw1]; omega)
            rw [eT] at s1 s2
            have hsame : ∀ j : Nat, (j : Int) < (i : Int) → tkT (zu M 98 i (M 98 i + 1)) j = tkT M j := fun j hj => by
              show wr ((zu M 98 i (M 98 i + 1)) 98 j) = wr (M 98 j)
              rw [zu_off (by omega)]
            refine ihr (108 - (M 98 i + 1)).toNat (by omega) (zu M 98 i (M 98 i + 1)) (by rw [zu_sm rfl]) (by rw [zu_sm rfl]; omega) hz2 (hF.set rfl) ?_ (fun v hv => ?_)
            · rw [y_wantE (fun _ _ => rfl) hsame]
              exact hw
            · rw [zu_sm rfl]
              exact s2 v ((y_AE (fun _ _ => rfl) hsame v).mp hv)
      have hsame : ∀ j : Nat, (j : Int) < (i : Int) → tkT (zu M 98 i a) j = tkT M j := fun j hj => by
        show wr ((zu M 98 i a) 98 j) = wr (M 98 j)
        rw [zu_off (by omega)]
      refine inner _ (zu M 98 i a) rfl (by rw [zu_sm rfl]; omega) hz (hF.set rfl) ?_ (fun v hv => ?_)
      · rw [y_wantE (fun _ _ => rfl) hsame]
        exact hw
      · rw [zu_sm rfl]
        exact hu v ((y_AE (fun _ _ => rfl) hsame v).mp hv)
  refine head n 0 0 m (by omega) (by omega) hB zFr.refl (by rw [hmany]; omega) (fun v hv => ?_)
  obtain ⟨⟨k, k1, k2⟩, _⟩ := hv
  have := hL k k1
  omega
theorem z_readWayC (hT : zRules T) {D : Nat} {κ : Option zA → zM → Prop} {m : zM} {sc : zSc} {n k L : Nat} {v : Int} (hI : Inv B sc n k m) (hv : isI v) (hL : m 2 1 = (L : Int)) (hk : ∀ M, zB M → zFr (inL [(2, some 1), (2, some 2), (2, some 3), (13, none), (52, some 1), (53, none)]) m M → M 2 1 = 0 → (rwR (m 80) L n v = 0 → M 52 1 = (L : Int) ∧ L ≤ 26 ∧ ∀ q, q < L → M 53 q = lwv m v.toNat q) → κ (some (zi (rwR (m 80) L n v))) M) : T (D + 6) 181 (0, [(0, zr 1), (1, zi v)], [], m) κ := by
  have i1 := hI.1
  have h4 := hI.2.2.2.1
  have b17 : 0 ≤ m 17 0 ∧ m 17 0 ≤ 6 := i1 17 0
  have n1 := h4.1.1
  have htx := hI.2.1
  unfold rwR at hk
  refine zb181_0 (D := D) hT i1 hv (fun q hz => ?_) (fun q q2 hz => ?_) (fun q1 q2 hz => ?_)
  · rw [if_neg (by omega)] at hk
    exact hk _ hz (((zFr.refl.set rfl).set rfl).set rfl) (by rw [zu_sm rfl]) (fun q => absurd q (by decide))
  · rw [if_neg (by omega)] at hk
    exact hk _ hz (((zFr.refl.set rfl).set rfl).set rfl) (by rw [zu_sm rfl]) (fun q => absurd q (by decide))
  obtain ⟨p, rfl⟩ : ∃ p : Nat, v = (p : Int) := ⟨v.toNat, by omega⟩
  rw [if_pos (by omega), Int.toNat_natCast] at hk
  have loop : ∀ (j i : Nat) (M : zM), i + j = 27 → i ≤ 26 → i ≤ L → zB M → zFr (inL [(2, some 1), (2, some 2), (2, some 3), (13, none), (52, some 1), (53, none)]) m M → M 2 3 = (i : Int) → M 2 2 = (L : Int) → M 2 1 = (L : Int) → M 52 1 = (i : Int) → (∀ q, q < i → M 53 q = lwv m p q) → rwF (m 80) L j i = rwF (m 80) L 27 0 → T (D + 6) 181 (40, [(0, zr 1), (1, zi (p : Int)), (2, zi (i : Int))], [], M) κ := by
    intro j
    induction j with
    | zero =>
      intro i M hi h26
      omega
    | succ j ih =>
      intro i M hi h26 hiL hBM hF h23 h22 h21 h52 h53 he
      rw [rwF] at he
      have fin : ∀ x : Int, x = rwF (m 80) L 27 0 → (x = 0 → i = L) → zB (zu M 2 1 0) → κ (some (zi x)) (zu M 2 1 0) := fun x hx hx0 hz => by
        rw [hx] at hx0 ⊢
        refine hk _ hz (hF.set rfl) (by rw [zu_sm rfl]) (fun q => ?_)
        have e := hx0 q
        subst e
        refine ⟨by rw [zu_dn (by omega)]; exact h52, h26, fun q hq => ?_⟩
        rw [zu_dn (by omega)]
        exact h53 q hq
      have b80 : -128 ≤ m 80 i ∧ m 80 i ≤ 127 := i1 80 i
      have hc1 : i < L → nxC M = m 80 i % 256 := fun q => by
        unfold nxC
        rw [h23, h22, if_pos (by omega), Int.toNat_natCast, hF 3 i rfl]
        exact htx.2 i (by omega)
      have hc2 : ¬ i < L → nxC M = -1 := fun q => by
        unfold nxC
        rw [h23, h22, if_neg (by omega)]
      -- no sign that goes on
      have stop : ¬ (i < L ∧ i < 26 ∧ 48 ≤ m 80 i ∧ m 80 i ≤ 51) → ∀ x : Int, ((i = L ∧ 0 < i ∧ x = 0) ∨ (¬ (i = L ∧ 0 < i) ∧ x = -1 - (i : Int))) → zB (zu M 2 1 0) → κ (some (zi x)) (zu M 2 1 0) := fun hn x hx hz => by
        rw [if_neg hn] at he
        rcases hx with ⟨x1, x2, x3⟩ | ⟨x1, x3⟩
        · rw [if_pos ⟨x1, x2⟩] at he
          exact fin x (x3.trans he) (fun _ => x1) hz
        · rw [if_neg x1] at he
          exact fin x (x3.trans he) (fun q => by omega) hz
      have nd : (nxC M < 48 ∨ 51 < nxC M) → ¬ (i < L ∧ i < 26 ∧ 48 ≤ m 80 i ∧ m 80 i ≤ 51) := fun q ⟨y1, y2, y3, y4⟩ => by
        have := hc1 y1
        omega
      refine zb181_40 (D := D) hT rfl hBM (by omega) (by omega) (fun q q2 => by omega) (fun q q2 q3 hz => stop (by omega) _ (Or.inr ⟨by omega, by omega⟩) hz) (fun q q2 q3 hz => stop (by omega) _ (Or.inl ⟨by omega, by omega, rfl⟩) hz) (fun _ => by omega) (fun q c1 q2 hz => stop (nd (Or.inl c1)) _ (Or.inr ⟨by omega, by omega⟩) hz) (fun q c1 q2 q3 hz => stop (nd (Or.inl c1)) _ (Or.inr ⟨by omega, by omega⟩) hz) (fun q c1 q2 q3 hz => stop (nd (Or.inl c1)) _ (Or.inl ⟨by omega, by omega, rfl⟩) hz) (fun q c1 c2 => ?_) (fun q c1 c2 q2 hz => stop (nd (Or.inr c2)) _ (Or.inr ⟨by omega, by omega⟩) hz) (fun q c1 c2 q2 q3 hz => stop (nd (Or.inr c2)) _ (Or.inr ⟨by omega, by omega⟩) hz) (fun q c1 c2 q2 q3 hz => stop (nd (Or.inr c2)) _ (Or.inl ⟨by omega, by omega, rfl⟩) hz)
      have hiL2 : i < L := by
        rcases Nat.lt_or_ge i L with x | x
        · exact x
        · have := hc2 (by omega)
          omega
      have hcc := hc1 hiL2
      have e80 : nxC M = m 80 i := by omega
      rw [if_pos ⟨hiL2, by omega, by omega, by omega⟩] at he
      rw [e80]
      have hpl : m 80 i - 48 = (((m 80 i - 48).toNat : Nat) : Int) := by omega
      rw [hpl]
      have hz2 : zB (zu M 2 3 (M 2 3 + 1)) := zB_u hBM (by show -1 ≤ M 2 3 + 1 ∧ M 2 3 + 1 ≤ 100; omega)
      have hF2 : zFr (inL [(2, some 1), (2, some 2), (2, some 3), (13, none), (52, some 1), (53, none)]) m (zu M 2 3 (M 2 3 + 1)) := hF.set rfl
      have x23 : (zu M 2 3 (M 2 3 + 1)) 2 3 = ((i + 1 : Nat) : Int) := by rw [zu_sm rfl, h23]; omega
      have x22 : (zu M 2 3 (M 2 3 + 1)) 2 2 = (L : Int) := by rw [zu_off (by omega)]; exact h22
      have x21 : (zu M 2 3 (M 2 3 + 1)) 2 1 = (L : Int) := by rw [zu_off (by omega)]; exact h21
      have x52 : (zu M 2 3 (M 2 3 + 1)) 52 1 = (i : Int) := by rw [zu_dn (by omega)]; exact h52
      have x53 : ∀ q, q < i → (zu M 2 3 (M 2 3 + 1)) 53 q = lwv m p q := fun q hq => by rw [zu_dn (by omega)]; exact h53 q hq
      have e17 : M 17 11 = (zu M 2 3 (M 2 3 + 1)) 17 11 := by rw [zu_dn (by omega)]
      rw [e17]
      generalize zu M 2 3 (M 2 3 + 1) = M2 at hz2 hF2 x23 x22 x21 x52 x53 ⊢
      have b11 : 0 ≤ M2 17 11 ∧ M2 17 11 ≤ 400000 := hz2 17 11
      have h18 := (h4.2.2.1 p (by omega)).2
      have hA : Agree KL m M2 := .of hF2 rfl
      refine z_lawAt (D := D + 1) hT hz2 (by omega) (by rw [hF2 18 p rfl]; omega) (by omega) (by omega) (hA.law.1 hI.2.2.1).1 (fun M3 hB3 hF3 => ?_)
      have hF3b : zFr (inL [(13, none)]) M2 M3 := hF3.sub rowL13
      have hFa : zFr (inL [(2, some 1), (2, some 2), (2, some 3), (13, none), (52, some 1), (53, none)]) m M3 := hF2.trans (hF3b.sub (inL_sub (by decide)))
      have y52 : M3 52 1 = (i : Int) := by rw [hF3b 52 1 rfl]; exact x52
      have ev : LW M2 (M2 18 p) (p : Int) (m 80 i - 48).toNat (M2 17 11 + i) = lwv m p i := by
        unfold lwv
        rw [hA.law.2, hF2 18 p rfl, hF2 17 11 rfl]
      rw [ev]
      refine zb181_83 (D := D) hT rfl hB3 (by omega) (by omega) (by unfold lwv; exact LWB) (fun _ => by omega) (fun _ hz4 => ?_)
      rw [y52, Int.toNat_natCast] at hz4 ⊢
      refine ih (i + 1) _ (by omega) (by omega) (by omega) hz4 ((hFa.set rfl).set rfl) ?_ ?_ ?_ (by rw [zu_sm rfl]; omega) (fun q hq => ?_) he
      · rw [zu_dn (by omega), zu_dn (by omega), hF3b 2 3 rfl]
        exact x23
      · rw [zu_dn (by omega), zu_dn (by omega), hF3b 2 2 rfl]
        exact x22
      · rw [zu_dn (by omega), zu_dn (by omega), hF3b 2 1 rfl]
        exact x21
      · rw [zu_dn (by omega)]
        by_cases e : q = i
        · subst e
          rw [zu_sm rfl]
        · rw [zu_off (by omega), hF3b 53 q rfl]
          exact x53 q (by omega)
  exact loop 27 0 _ (by omega) (by omega) (by omega) hz (((zFr.refl.set rfl).set rfl).set rfl) (by rw [zu_dn (by omega), zu_off (by omega), zu_sm rfl]; rfl) (by rw [zu_dn (by omega), zu_sm rfl]; exact hL) (by rw [zu_dn (by omega), zu_off (by omega), zu_off (by omega)]; exact hL) (by rw [zu_sm rfl]; rfl) (fun q hq => absurd hq (Nat.not_lt_zero q)) rfl
theorem z_readWayR (hT : zRules T) {D : Nat} {κ : Option zA → zM → Prop} {m M0 : zM} {sc : zSc} {n k L : Nat} {v : Int} (hI : Inv B sc n k m) (hB : zB M0) (hA0 : Agree noT0 m M0) (h9 : M0 74 9 = (L : Int)) (h80 : ∀ q, M0 80 q = m 80 q) (hv : isI v)
    (hk : ∀ M, zB M → zFr (inL ([(74, some 9), (74, some 49), (97, none)] ++ lbL)) M0 M → M 74 9 = 0 → (rwR (m 80) L n v = 0 → M 74 49 = (L : Int) ∧ ∀ q, q < L → M 97 q = lwv m v.toNat q) → κ (some (zi (rwR (m 80) L n v))) M) : T (D + 171) 267 (0, [(0, zr 74), (1, zi v)], [], M0) κ := by
  have i1 := hI.1
  have h4 := hI.2.2.2.1
  have b17 : 0 ≤ m 17 0 ∧ m 17 0 ≤ 6 := i1 17 0
  have n1 := h4.1.1
  have e4 : M0 74 4 = (n : Int) := (hA0 74 4 rfl).trans h4.1.2
  have b9 : 0 ≤ M0 74 9 ∧ M0 74 9 ≤ 80 := hB 74 9
  have t9 : zFr (inL ([(74, some 9), (74, some 49), (97, none)] ++ lbL)) M0 (zu M0 74 9 0) := zFr.refl.set rfl
  have x9 : (zu M0 74 9 0) 74 9 = 0 := by rw [zu_sm rfl]
  unfold rwR at hk
  refine zb267_0 (D := D + 166) hT hB hv (fun _ hz => ?_) (fun _ _ hz => ?_) (fun q1 q2 hz => ?_)
  · rw [if_neg (by omega)] at hk
    exact hk _ hz t9 x9 (fun q => absurd q (by decide))
  · rw [if_neg (by omega)] at hk
    exact hk _ hz t9 x9 (fun q => absurd q (by decide))
  obtain ⟨p, rfl⟩ : ∃ p : Nat, v = (p : Int) := ⟨v.toNat, by omega⟩
  rw [if_pos (by omega), Int.toNat_natCast] at hk
  rw [h9]
  have y80 : ∀ q, (zu M0 74 9 0) 80 q = m 80 q := fun q => by rw [zu_dn (by omega)]; exact h80 q
  generalize zu M0 74 9 0 = M at hz t9 x9 y80 ⊢
  obtain ⟨hh1, hh2⟩ := h4.2.2.1 p (by omega)
  have e57 : m 17 11 = m 75 57 := h4.2.2.2.1.2.2.2.2.1
  have second : rwF (m 80) L 27 0 = 0 → ∀ (j i : Nat) (M2 : zM), i + j = L → L ≤ 26 → (∀ q, q < L → 48 ≤ m 80 q ∧ m 80 q ≤ 51) → zB M2 → zFr (inL ([(74, some 9), (74, some 49), (97, none)] ++ lbL)) M0 M2 → M2 74 9 = 0 → (∀ q, q < i → M2 97 q = lwv m p q) → T (D + 171) 267 (68, [(0, zr 74), (1, zi (p : Int)), (2, zi (L : Int)), (3, zi (i : Int))], [], M2) κ := by
    intro hz0 j
    induction j with
    | zero =>
      intro i M2 hi hL26 hd hB2 hF u9 h97
      have ei : i = L := by omega
      subst ei
      refine zb267_68 (D := D + 166) hT rfl hB2 (by omega) hL26 (by omega) (fun _ hz2 => ?_) (fun q => by omega)
      rw [hz0] at hk
      refine hk _ hz2 (hF.set rfl) (by rw [zu_off (by omega), u9]) (fun _ => ⟨by rw [zu_sm rfl], fun q hq => by rw [zu_dn (by omega)]; exact h97 q hq⟩)
    | succ j ih =>
      intro i M2 hi hL26 hd hB2 hF u9 h97
      refine zb267_68 (D := D + 166) hT rfl hB2 (by omega) hL26 (by omega) (fun q => by omega) (fun _ => ?_)
      have h8 := hd i (by omega)
      have b57 : 0 ≤ M2 75 57 ∧ M2 75 57 ≤ 400000 := hB2 75 57
      have e80 : M2 80 i = m 80 i := (hF 80 i rfl).trans (h80 i)
      rw [e80]
      have hpl : m 80 i - 48 = (((m 80 i - 48).toNat : Nat) : Int) := by omega
      rw [hpl]
      have hA : Agree KL m M2 := (hA0.sub (fun q hq => List.mem_append.mpr (Or.inl hq))).trans (.of hF rfl)
      refine z_lawOf hT hB2 (by omega) (by omega) (by omega) (hA.law.1 hI.2.2.1) (fun M3 hB3 hF3 => ?_)
      have hF3b := hF3.sub lbWL
      have hFa : zFr (inL ([(74, some 9), (74, some 49), (97, none)] ++ lbL)) M0 M3 := hF.trans (hF3b.sub (inL_sub (by decide)))
      have ev : LW M2 (M2 78 p) (p : Int) (m 80 i - 48).toNat (M2 75 57 + i) = lwv m p i := by
        unfold lwv
        rw [hA.law.2, hF 78 p rfl, hF 75 57 rfl, hA0 78 p rfl, hA0 75 57 rfl, hh1, e57]
      rw [ev]
      refine zb267_101 (D := D + 166) hT rfl hB3 (by omega) hL26 (by omega) (by unfold lwv; exact LWB) (by omega) (fun hz4 => ?_)
      refine ih (i + 1) _ (by omega) hL26 hd hz4 (hFa.set rfl) (by rw [zu_dn (by omega), hF3b 74 9 rfl, u9]) (fun q hq => ?_)
      by_cases e : q = i
      · subst e
        rw [zu_sm rfl]
      · rw [zu_off (by omega), hF3b 97 q rfl]
        exact h97 q (by omega)
  have first : ∀ (j i : Nat), i + j = 27 → i ≤ 26 → i ≤ L → (∀ q, q < i → 48 ≤ m 80 q ∧ m 80 q ≤ 51) → rwF (m 80) L j i = rwF (m 80) L 27 0 → T (D + 171) 267 (23, [(0, zr 74), (1, zi (p : Int)), (2, zi (L : Int)), (3, zi (i : Int))], [], M) κ := by
    intro j
    induction j with
    | zero =>
      intro i hi h26
      omega
    | succ j ih =>
      intro i hi h26 hiL hd he
      rw [rwF] at he
      have stop : ¬ (i < L ∧ i < 26 ∧ 48 ≤ m 80 i ∧ m 80 i ≤ 51) → ¬ (i = L ∧ 0 < i) → κ (some (zi ((-1) - (i : Int)))) M := fun hn hn2 => by
        rw [if_neg hn, if_neg hn2] at he
        rw [← he] at hk
        exact hk _ hz t9 x9 (fun q => by omega)
      have e80 := y80 i
      refine zb267_23 (D := D + 166) hT rfl hz (by omega) (by omega) (by omega) (fun q q2 => ?_) (fun q q2 => ?_) (fun q q2 => stop (by omega) (by omega)) (fun q q2 q3 => stop (by omega) (by omega)) (fun q q2 q3 q4 => stop (by omega) (by omega)) (fun q c1 c2 c3 => ?_)
      · have ei : i = L := by omega
        rw [if_neg (by omega), if_pos ⟨ei, by omega⟩] at he
        exact second he.symm L 0 M (by omega) (by omega) (fun q hq => hd q (by omega)) hz t9 x9 (fun q hq => absurd hq (Nat.not_lt_zero q))
      · have h1 := stop (by omega) (by omega)
        rw [show (i : Int) = 0 by omega] at h1
        exact h1
      · rw [if_pos ⟨by omega, by omega, by omega, by omega⟩] at he
        refine ih (i + 1) (by omega) (by omega) (by omega) (fun q hq => ?_) he
        by_cases e : q = i
        · rw [e]
          omega
        · exact hd q (by omega)
  exact first 27 0 (by omega) (by omega) (by omega) (fun q hq => absurd hq (Nat.not_lt_zero q)) rfl
theorem w_way (hT : zRules T) {v : Int} (hv : isI v) : Way T 146 271 [(0, zr 1), (1, zi v)] [(0, zr 74), (1, zi v)] 7 172 B B True := by
  rintro D m sc ⟨n, k, hI⟩ κ hκ
  have hI0 := hI
  have i1 := hI.1
  have b17 : 0 ≤ m 17 0 ∧ m 17 0 ≤ 6 := i1 17 0
  have b21 : 0 ≤ m 2 1 ∧ m 2 1 ≤ 80 := i1 2 1
  have b240 : 0 ≤ m 24 0 ∧ m 24 0 ≤ 9 := i1 24 0
  obtain ⟨n1, n2⟩ := hI.2.2.2.1.1
  obtain ⟨L, hL⟩ : ∃ L : Nat, m 2 1 = (L : Int) := ⟨(m 2 1).toNat, by omega⟩
  have h9 : m 74 9 = (L : Int) := hI.2.1.1.trans hL
  -- what both answer
  obtain ⟨R, hR⟩ : ∃ R : Int, R = if rwR (m 80) L n v = 0 then ((pkv (lwv m v.toNat) L (m 24 0) L (nxv (lwv m v.toNat) 0 L) : Nat) : Int) else rwR (m 80) L n v := ⟨_, rfl⟩
  have ref : ∀ (M0 : zM), zB M0 → Agree noT0 m M0 → M0 2 1 = 0 → M0 74 9 = (L : Int) → (∀ q, M0 80 q = m 80 q) → (rwR (m 80) L n v = 0 → M0 72 1 = R) → (¬ rwR (m 80) L n v = 0 → RowP M0) → κ (some (zi R)) M0 := by
    intro M0 hB0 hA0 e21 h9 h80 hy1 hy2
    refine hκ _ _ (fun D2 κ2 h2 => ?_)
    have fin : ∀ (x : Int) M1, x = R → zB M1 → Agree noT0 m M1 → M1 2 1 = 0 → M1 74 9 = 0 → RowP M1 → κ2 (some (zi x)) M1 := fun x M1 ex hB1 hA1 f1 f2 hr => h2 _ _ (fun _ => by rw [ex]) ⟨n, k, Inv_ntR hI0 hB1 hA1 f1 f2 hr⟩
    refine zb271_0 (D := D2 + 166) hT hB0 hv (fun hz => ?_)
    have hA1 : Agree noT0 m (zu M0 74 12 0) := hA0.trans (.of (L := [(74, some 12)]) (zFr.refl.set rfl) rfl)
    have e21b : (zu M0 74 12 0) 2 1 = 0 := by rw [zu_dn (by omega), e21]
    have h9b : (zu M0 74 12 0) 74 9 = (L : Int) := by rw [zu_off (by omega), h9]
    have h80b : ∀ q, (zu M0 74 12 0) 80 q = m 80 q := fun q => by rw [zu_dn (by omega)]; exact h80 q
    have y1 : rwR (m 80) L n v = 0 → (zu M0 74 12 0) 72 1 = R := fun q => (zu_dn (by decide)).trans (hy1 q)
    have y2 : ¬ rwR (m 80) L n v = 0 → RowP (zu M0 74 12 0) := fun q => RowP_fr (.of (L := [(74, some 12)]) (zFr.refl.set rfl) rfl) (hy2 q)
    generalize zu M0 74 12 0 = M at hz hA1 e21b h9b h80b y1 y2 ⊢
    refine z_readWayR (D := D2) hT hI0 hz hA1 h9b h80b hv (fun M1 hB1 hF1 h9 hw => ?_)
    have hA2 : Agree noT0 m M1 := hA1.trans (.of hF1 rfl)
    have f21 : M1 2 1 = 0 := by rw [hF1 2 1 rfl, e21b]
    have hle := rwR_le (g := m 80) (L := L) (n := n) (v := v)
    refine zb271_10 (D := D2 + 166) hT rfl hB1 (by omega) (fun q => ?_) (fun q => fin _ _ (by rw [hR, if_neg (by omega)]) hB1 hA2 f21 h9 (RowP_fr (.of hF1 rfl) (y2 (by omega))))
    have e0 : rwR (m 80) L n v = 0 := by omega
    obtain ⟨hN, h97⟩ := hw e0
    have b49 : 0 ≤ M1 74 49 ∧ M1 74 49 ≤ 26 := hB1 74 49
    have e79 : M1 79 0 = m 24 0 := (hA2 79 0 rfl).trans (hI.2.2.2.2.1 0 (by omega))
    refine z_findTakenN (D := D2 + 166) (N := L) hT hB1 hN (by omega) (fun c M3 hcw hc hB3 hF3 _ => ?_)
    rw [e79, few_want b240.1 (fun q hq => by unfold lwv; exact LWB) h97] at hcw
    have hcR : (c : Int) = R := by rw [hR, if_pos e0]; exact hcw
    refine zb271_21 (D := D2 + 166) hT rfl hB3 (by omega) (fun hz4 => ?_)
    have hA3 : Agree noT0 m M3 := hA2.trans (.of hF3 rfl)
    have loop : ∀ (j i : Nat) (M4 : zM), i + j = c → zB M4 → M4 74 11 = (i : Int) → Agree noT0 m M4 → M4 2 1 = 0 → M4 74 9 = 0 → M4 72 1 = R → T (D2 + 172) 271 (30, [(0, zr 74), (3, zi (c : Int)), (4, zi (i : Int))], [], M4) κ2 := by
      intro j
      induction j with
      | zero =>
        intro i M4 hi hB4 h11 hA4 f1 f2 g72
        exact zb271_30 (D := D2 + 166) hT rfl hB4 (by omega) (by omega) (fun _ => fin _ _ hcR hB4 hA4 f1 f2 (RowP.len (by rw [g72, h11]; omega))) (fun q => by omega) (fun q => by omega)
      | succ j ih =>
        intro i M4 hi hB4 h11 hA4 f1 f2 g72
        refine zb271_30 (D := D2 + 166) hT rfl hB4 (by omega) (by omega) (fun q => by omega) (fun _ => by omega) (fun _ => ?_)
        refine ih (i + 1) _ (by omega) (zB_u (zB_u hB4 trivial) ?_) (by rw [zu_sm rfl, h11]; omega) (hA4.trans (.of (L := [(74, some 11), (81, none)]) ((zFr.refl.set rfl).set rfl) rfl)) (by rw [zu_dn (by omega), zu_dn (by omega), f1]) (by rw [zu_off (by omega), zu_dn (by omega), f2]) (by rw [zu_dn (by decide), zu_dn (by decide)]; exact g72)
        show 0 ≤ M4 74 11 + 1 ∧ M4 74 11 + 1 ≤ 32
        omega
    exact loop c 0 _ (by omega) hz4 (by rw [zu_sm rfl]; rfl) (hA3.trans (.of (L := [(74, some 11)]) (zFr.refl.set rfl) rfl)) (by rw [zu_dn (by omega), hF3 2 1 rfl, f21]) (by rw [zu_off (by omega), hF3 74 9 rfl, h9]) (by rw [zu_dn (by decide), hF3 72 1 rfl, hF1 72 1 rfl]; exact y1 e0)
  refine zb146_0 hT i1 hv ?_
  refine z_readWayC hT hI0 hv hL (fun M hBM hF e21 hw => ?_)
  have hA : Agree noT m M := .of hF rfl
  have hle := rwR_le (g := m 80) (L := L) (n := n) (v := v)
  have q9 : M 74 9 = (L : Int) := (hF 74 9 rfl).trans h9
  have q80 : ∀ q, M 80 q = m 80 q := fun q => hF 80 q rfl
  refine zb146_5 hT rfl hBM (by omega) (fun q => ?_) (fun q => ?_)
  · obtain ⟨hN, hL26, h53⟩ := hw q
    have e24 : M 24 0 = m 24 0 := hF 24 0 rfl
    rw [e24]
    refine z_packFewN (D := D + 2) hT hBM hN b240 (fun M2 hc hB2 hF2 => ?_)
    have hA2 : Agree noT m M2 := hA.trans (.of hF2 rfl)
    have g21 : M2 2 1 = 0 := by rw [hF2 2 1 rfl, e21]
    have ec : ((pkv (M 53) L (m 24 0) L (nxv (M 53) 0 L) : Nat) : Int) = R := by
      rw [hR, if_pos q, pkv_congr h53, nxv_congr L h53]
    have g9 : M2 74 9 = (L : Int) := (hF2 74 9 rfl).trans q9
    have g80 : ∀ q, M2 80 q = m 80 q := fun q => (hF2 80 q rfl).trans (q80 q)
    generalize pkv (M 53) L (m 24 0) L (nxv (M 53) 0 L) = c at hc ec ⊢
    refine zb146_26 hT rfl hB2 (by omega) ?_
    refine zb48_0_58w (D := D + 4) hT hB2 (by omega) (fun q0 _ => by omega) (fun _ q0 hz => ?_) (fun _ q0 hz => ?_)
    · refine zb146_42 hT rfl (by omega) ?_
      rw [ec] at hz ⊢
      exact ref _ hz (hA2.n0.trans (.of (L := [(72, some 1), (73, none)]) ((zFr.refl.set rfl).cp (fun _ => rfl)) rfl)) (by rw [z_cp_dn (by omega), zu_dn (by omega), g21]) (by rw [z_cp_dn (by omega), zu_dn (by omega), g9]) (fun q => by rw [z_cp_dn (by omega), zu_dn (by omega), g80]) (fun _ => by rw [z_cp_dn (by decide), zu_sm rfl] <;> omega) (fun x => absurd q x)
    · refine zb146_42 hT rfl (by omega) ?_
      rw [ec]
      exact ref _ hz (hA2.n0.trans (.of (L := [(72, some 1), (73, none)]) ((zFr.refl.set rfl).cp (fun _ => rfl)) rfl)) (by rw [z_cp_dn (by omega), zu_dn (by omega), g21]) (by rw [z_cp_dn (by omega), zu_dn (by omega), g9]) (fun q => by rw [z_cp_dn (by omega), zu_dn (by omega), g80]) (fun _ => by rw [z_cp_dn (by decide), zu_sm rfl] <;> omega) (fun x => absurd q x)
  · have eR : rwR (m 80) L n v = R := by rw [hR, if_neg q]
    rw [eR]
    exact ref _ hBM hA.n0 e21 q9 q80 (fun x => absurd x q) (fun _ => RowP_fr (.of hF rfl) hI.2.2.2.2.2.2.2.2.2.2.2.2.2)
end ZWayX
