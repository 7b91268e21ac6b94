/-! dress(): the least, by both. -/
/-- the least that d more cost, those of u being given away -/
noncomputable def DT (K : Nat) (cost : Nat → Nat → Int) : Nat → Nat → Int
  | 0, _ => 0
  | d + 1, u => (mo u (fun c => cost (popc8 u) c + DT K cost d (u ||| 2 ^ c)) K).getD 0
theorem DT_some {K : Nat} {cost : Nat → Nat → Int} {d u : Nat} {b : Int} (h : mo u (fun c => cost (popc8 u) c + DT K cost d (u ||| 2 ^ c)) K = some b) : DT K cost (d + 1) u = b := by
  rw [DT, h]
  rfl
theorem DT_rng {K : Nat} {cost : Nat → Nat → Int} (hc : ∀ i c, c < K → 0 ≤ cost i c ∧ cost i c ≤ 1000) : ∀ d u : Nat, 0 ≤ DT K cost d u ∧ DT K cost d u ≤ 1000 * d
  | 0, _ => ⟨Int.le_refl 0, by rw [DT]; omega⟩
  | d + 1, u => by
    have ih := fun y => DT_rng hc d y
    rw [DT]
    cases he : mo u (fun c => cost (popc8 u) c + DT K cost d (u ||| 2 ^ c)) K with
    | none =>
      show (0 : Int) ≤ 0 ∧ (0 : Int) ≤ 1000 * ((d + 1 : Nat) : Int)
      omega
    | some b =>
      have := mo_rng (lo := 0) (hi := 1000 * ((d + 1 : Nat) : Int)) K (fun j hj => by
        have h1 := hc (popc8 u) j hj
        have h2 := ih (u ||| 2 ^ j)
        omega) b he
      exact this
theorem pop_le8 : ∀ N : Nat, N < 9 → ∀ y : Nat, y < 256 → y < 2 ^ N → popc8 y ≤ N := by decide +kernel
theorem or_gt8 : ∀ g : Nat, g < 8 → ∀ x : Nat, x < 256 → x.testBit g = false → x < x ||| 2 ^ g := by decide +kernel
theorem pcn_eq : ∀ n : Nat, n < 7 → ∀ x : Nat, x < 64 → x < 2 ^ n → pcn x n = popc8 x := by decide +kernel
theorem pcn_mono {x a : Nat} : ∀ d : Nat, pcn x a ≤ pcn x (a + d)
  | 0 => Nat.le_refl _
  | d + 1 => by
    have := pcn_mono (x := x) (a := a) d
    rw [show a + (d + 1) = a + d + 1 by omega, pcn]
    omega
/-- LAW of one, where it is, now -/
noncomputable def lawN (m : zM) (p : Nat) : Int := LW m (m 18 p) (p : Int) (m 75 p).toNat (m 17 11)
section ZDressX
variable {T : Nat → Nat → zG → (Option zA → zM → Prop) → Prop} {B : Int}
theorem z_costWith (hT : zRules T) {D : Nat} {κ : Option zA → zM → Prop} {m M : zM} {x g N cnt : Nat} (hB : zB M) (hN : M 17 1 = (N : Int)) (hcnt : M 52 1 = (cnt : Int)) (hx : x ≤ 255) (hg : g < N) (hp : popc8 x < cnt) (e21 : M 21 g = m 75 (g + 12)) (e22 : M 22 g = m 75 (g + 20)) (h0 : 0 ≤ m 75 (g + 20)) (e24 : ∀ j, M 24 j = m 24 j) (h57 : 0 ≤ M 57 (x ||| 2 ^ g) ∧ M 57 (x ||| 2 ^ g) ≤ 100000)
    (hk : (0 ≤ cstV m (M 53 (popc8 x)) g ∧ cstV m (M 53 (popc8 x)) g ≤ 1000) → κ (some (zi (cstV m (M 53 (popc8 x)) g + M 57 (x ||| 2 ^ g)))) M) : T (D + 4) 89 (0, [(0, zr 52), (1, zr 17), (2, zi (x : Int)), (3, zi (g : Int))], [], M) κ := by
  have b64 : 0 ≤ M 17 1 ∧ M 17 1 ≤ 8 := hB 17 1
  have p8 := popc8_8 x (by omega)
  refine zb89_0 hT hB hx (by omega) ?_
  refine z_bitCount (D := D + 2) hT (by omega) ?_
  refine zb89_4 hT rfl hB hx (by omega) (by omega) (fun q => by omega) (fun _ q => by omega) (fun _ _ _ => ?_) (fun _ _ q => by omega)
  rw [Int.toNat_natCast]
  have b53 : 0 ≤ M 53 (popc8 x) ∧ M 53 (popc8 x) ≤ 99 := hB 53 _
  refine z_costCx (D := D) (m := m) hT hB (by omega) b53 e21 e22 h0 e24 (fun hv => ?_)
  obtain ⟨e1, e2⟩ := orB8 (x := x) (f := g) (by omega) (by omega)
  refine zb89_37 hT rfl hB hx (by omega) hv (by rw [e1]; omega) ?_
  rw [e1, Int.toNat_natCast, wr_id (by omega) (by omega)]
  exact hk hv
theorem z_firstCh (hT : zRules T) {D : Nat} {κ : Option zA → zM → Prop} {m M : zM} {x N cnt : Nat} {v : Nat → Int} (hB : zB M) (hN : M 17 1 = (N : Int)) (hcnt : M 52 1 = (cnt : Int)) (hx : x ≤ 255) (hp : popc8 x < cnt) (e21 : ∀ g, g < N → M 21 g = m 75 (g + 12) ∧ M 22 g = m 75 (g + 20) ∧ 0 ≤ m 75 (g + 20)) (e24 : ∀ j, M 24 j = m 24 j)
    (hv : ∀ g, g < N → x.testBit g = false → v g = cstV m (M 53 (popc8 x)) g + M 57 (x ||| 2 ^ g) ∧ (0 ≤ M 57 (x ||| 2 ^ g) ∧ M 57 (x ||| 2 ^ g) ≤ 100000))
    (hk : ∀ f : Int, ((f = -1 ∧ mo x v N = none) ∨ ∃ g : Nat, f = (g : Int) ∧ g < N ∧ x.testBit g = false ∧ mo x v N = some (v g)) → κ (some (zi f)) M) : T (D + 5) 90 (0, [(0, zr 52), (1, zr 17), (2, zi (x : Int))], [], M) κ := by
  have b64 : 0 ≤ M 17 1 ∧ M 17 1 ≤ 8 := hB 17 1
  have key : ∀ (j t : Nat) (f b : Int), t + j = N → isI b → ((f = -1 ∧ mo x v t = none) ∨ ∃ g : Nat, f = (g : Int) ∧ g < t ∧ x.testBit g = false ∧ mo x v t = some (v g) ∧ b = v g) → T (D + 5) 90 (8, [(0, zr 52), (1, zr 17), (2, zi (x : Int)), (3, zi f), (4, zi b), (5, zi (t : Int))], [], M) κ := by
    intro j
    induction j with
    | zero =>
      intro t f b ht hb hf
      have et : t = N := by omega
      subst et
      have f6 : -1 ≤ f ∧ f ≤ 7 := by
        rcases hf with ⟨h0, _⟩ | ⟨g, h0, h1, _⟩ <;> omega
      exact zb90_8 hT rfl hB hx f6 hb (by omega) (fun _ => hk f (hf.imp id (fun ⟨g, q1, q2, q3, q4, _⟩ => ⟨g, q1, q2, q3, q4⟩))) (fun q => by omega) (fun q => by omega)
    | succ j ih =>
      intro t f b ht hb hf
      have f6 : -1 ≤ f ∧ f ≤ 7 := by
        rcases hf with ⟨h0, _⟩ | ⟨g, h0, h1, _⟩ <;> omega
      refine zb90_8 hT rfl hB hx f6 hb (by omega) (fun q => by omega) (fun _ q => ?_) (fun _ q => ?_)
      · have hbt := bit_yes8 (x := x) (t := t) (by omega) (by omega) q
        refine ih (t + 1) f b (by omega) hb ?_
        rw [mo_yes hbt]
        rcases hf with h0 | ⟨g, h0, h1, h2⟩
        · exact Or.inl h0
        · exact Or.inr ⟨g, h0, by omega, h2⟩
      · have hbt := bit_no8 (x := x) (t := t) (by omega) (by omega) q
        obtain ⟨v1, v2⟩ := hv t (by omega) hbt
        obtain ⟨y1, y2, y3⟩ := e21 t (by omega)
        refine z_costWith (m := m) hT hB hN hcnt hx (by omega) hp y1 y2 y3 e24 v2 (fun hc => ?_)
        rw [← v1]
        have vI : isI (v t) := by
          rw [v1]
          unfold isI
          omega
        have nx : mo x v (t + 1) = some (v t) → T (D + 5) 90 (8, [(0, zr 52), (1, zr 17), (2, zi (x : Int)), (3, zi (t : Int)), (4, zi (v t)), (5, zi ((t : Int) + 1))], [], M) κ := fun e => ih (t + 1) (t : Int) (v t) (by omega) vI (Or.inr ⟨t, rfl, by omega, hbt, e, rfl⟩)
        refine zb90_34 hT rfl hB hx f6 hb (by omega) vI (fun q2 => ?_) (fun q2 q3 => ?_) (fun q2 q3 => ?_)
        · rcases hf with ⟨h0, h2⟩ | ⟨g, h0, _⟩
          · exact nx (mo_no0 hbt h2)
          · omega
        · rcases hf with ⟨h0, _⟩ | ⟨g, h0, h1, h2, h3, h4⟩
          · exact absurd h0 q2
          · refine ih (t + 1) f b (by omega) hb (Or.inr ⟨g, h0, by omega, h2, ?_, h4⟩)
            rw [mo_no1 hbt h3, if_neg (by omega)]
        · rcases hf with ⟨h0, _⟩ | ⟨g, h0, h1, h2, h3, h4⟩
          · exact absurd h0 q2
          · exact nx (by rw [mo_no1 hbt h3, if_pos (by omega)])
  exact zb90_0 hT hB hx (key N 0 (-1) 0 (by omega) (by unfold isI; omega) (Or.inl ⟨rfl, rfl⟩))
theorem z_dressCh (hT : zRules T) {D : Nat} {κ : Option zA → zM → Prop} {m M0 : zM} {N cnt : Nat} {cost : Nat → Nat → Int} (hB : zB M0) (hN : M0 17 1 = (N : Int)) (hcnt : M0 52 1 = (cnt : Int)) (hle : cnt ≤ N) (e21 : ∀ g, g < N → M0 21 g = m 75 (g + 12) ∧ M0 22 g = m 75 (g + 20) ∧ 0 ≤ m 75 (g + 20)) (e24 : ∀ j, M0 24 j = m 24 j) (hco : ∀ i, i < cnt → ∀ c, c < N → cost i c = cstV m (M0 53 i) c) (hcr : ∀ i c, c < N → 0 ≤ cost i c ∧ cost i c ≤ 1000)
    (hk : ∀ M, zB M → zFr (inL [(57, none), (58, none)]) M0 M → κ (some (zi (DT N cost cnt 0))) M) : T (D + 6) 88 (0, [(0, zr 52), (1, zr 17)], [], M0) κ := by
  have b64 : 0 ≤ M0 17 1 ∧ M0 17 1 ≤ 8 := hB 17 1
  have hDT := DT_rng hcr
  have p7 : 2 ^ N ≤ 2 ^ 8 := Nat.pow_le_pow_right (by omega) (by omega)
  have p1 : 1 ≤ 2 ^ N := Nat.one_le_two_pow
  have second : ∀ (j t x : Nat) (M : zM), t + j = cnt → x < 256 → popc8 x = t → zB M → zFr (inL [(57, none), (58, none)]) M0 M → M 57 0 = DT N cost cnt 0 → T (D + 6) 88 (62, [(0, zr 52), (1, zr 17), (3, zi (x : Int)), (4, zi (t : Int))], [], M) κ := by
    intro j
    induction j with
    | zero =>
      intro t x M ht hx hp hBM hF h57
      have e64 : M 52 1 = (cnt : Int) := (hF 52 1 rfl).trans hcnt
      refine zb88_62 hT rfl hBM (by omega) (by omega) (fun _ => ?_) (fun q => by omega)
      have := hDT cnt 0
      rw [h57, wr_id (by omega) (by omega)]
      exact hk M hBM hF
    | succ j ih =>
      intro t x M ht hx hp hBM hF h57
      have e64 : M 52 1 = (cnt : Int) := (hF 52 1 rfl).trans hcnt
      refine zb88_62 hT rfl hBM (by omega) (by omega) (fun q => by omega) (fun _ => ?_)
      refine z_firstCh0 (D := D) (N := N) hT hBM ((hF 17 1 rfl).trans hN) (by omega) (fun f hf => ?_)
      have hg : ∃ g : Nat, f = (g : Int) ∧ g < N ∧ x.testBit g = false := by
        rcases hf with ⟨_, h1⟩ | h0
        · have := full_p8 N (by omega) x hx h1
          omega
        · exact h0
      obtain ⟨g, rfl, g7, gb⟩ := hg
      refine zb88_93 hT rfl hBM (by omega) (by omega) (by omega) (fun hz => ?_)
      obtain ⟨e1, e2⟩ := orB8 (x := x) (f := g) (by omega) (by omega)
      rw [e1]
      exact ih (t + 1) _ _ (by omega) e2 (by rw [set_p8 g (by omega) x hx gb, hp]) hz (hF.set rfl) (by rw [zu_dn (by omega)]; exact h57)
  have first : ∀ (j : Nat) (M : zM), j ≤ 2 ^ N → zB M → zFr (inL [(57, none), (58, none)]) M0 M → (∀ y, j ≤ y → y < 2 ^ N → M 57 y = DT N cost (cnt - popc8 y) y) → T (D + 6) 88 (11, [(0, zr 52), (1, zr 17), (3, zi ((j : Int) - 1))], [], M) κ := by
    intro j
    induction j with
    | zero =>
      intro M hj hBM hF hD
      have h0 := hD 0 (by omega) (by omega)
      rw [show popc8 0 = 0 from by decide, Nat.sub_zero] at h0
      exact zb88_11 hT rfl hBM (by omega) (fun _ => second cnt 0 0 M (by omega) (by omega) (by decide) hBM hF h0) (fun q => by omega)
    | succ j ih =>
      intro M hj hBM hF hD
      have hj8 : j < 256 := by omega
      rw [show ((j + 1 : Nat) : Int) - 1 = (j : Int) by omega]
      refine zb88_11 hT rfl hBM (by omega) (fun q => by omega) (fun _ hz => ?_)
      refine z_bitCount (D := D + 4) hT hj8 ?_
      have p8 := popc8_8 j hj8
      rw [Int.toNat_natCast] at hz ⊢
      have hF1 : zFr (inL [(57, none), (58, none)]) M0 (zu M 57 j 0) := hF.set rfl
      have hD1 : ∀ y, j + 1 ≤ y → y < 2 ^ N → (zu M 57 j 0) 57 y = DT N cost (cnt - popc8 y) y := fun y h1 h2 => by
        rw [zu_off (by omega)]
        exact hD y h1 h2
      have hj0 : (zu M 57 j 0) 57 j = 0 := by rw [zu_sm rfl]
      generalize zu M 57 j 0 = M1 at hz hF1 hD1 hj0 ⊢
      have e52 : M1 52 1 = (cnt : Int) := (hF1 52 1 rfl).trans hcnt
      refine zb88_26 hT rfl hz (by omega) (by omega) (fun q => ?_) (fun q => ?_)
      · refine ih M1 (by omega) hz hF1 (fun y h1 h2 => ?_)
        by_cases e : y = j
        · rw [e, hj0, show cnt - popc8 j = 0 by omega]
          rfl
        · exact hD1 y (by omega) h2
      · obtain ⟨d, hd⟩ : ∃ d : Nat, cnt - popc8 j = d + 1 := ⟨cnt - popc8 j - 1, by omega⟩
        have h57 : ∀ g, g < N → j.testBit g = false → M1 57 (j ||| 2 ^ g) = DT N cost d (j ||| 2 ^ g) := fun g hg hb => by
          rw [hD1 (j ||| 2 ^ g) (by have := or_gt8 g (by omega) j (by omega) hb; omega) (or_2p (by omega) hg), set_p8 g (by omega) j (by omega) hb, show cnt - (popc8 j + 1) = d by omega]
        have e53 : M1 53 (popc8 j) = M0 53 (popc8 j) := hF1 53 _ rfl
        have y21 : ∀ g, g < N → M1 21 g = m 75 (g + 12) ∧ M1 22 g = m 75 (g + 20) ∧ 0 ≤ m 75 (g + 20) := fun g hg => by
          rw [hF1 21 g rfl, hF1 22 g rfl]
          exact e21 g hg
        have y24 : ∀ q, M1 24 q = m 24 q := fun q => (hF1 24 q rfl).trans (e24 q)
        have hvv : ∀ g, g < N → j.testBit g = false → (fun c => cost (popc8 j) c + DT N cost d (j ||| 2 ^ c)) g = cstV m (M1 53 (popc8 j)) g + M1 57 (j ||| 2 ^ g) ∧ (0 ≤ M1 57 (j ||| 2 ^ g) ∧ M1 57 (j ||| 2 ^ g) ≤ 100000) := fun g hg hb => by
          rw [h57 g hg hb, e53, ← hco (popc8 j) (by omega) g hg]
          have := hDT d (j ||| 2 ^ g)
          exact ⟨rfl, by omega, by omega⟩
        refine z_firstCh (D := D) (m := m) hT hz ((hF1 17 1 rfl).trans hN) e52 (by omega) (by omega) y21 y24 hvv (fun f hf => ?_)
        have hg : ∃ g : Nat, f = (g : Int) ∧ g < N ∧ j.testBit g = false ∧ mo j (fun c => cost (popc8 j) c + DT N cost d (j ||| 2 ^ c)) N = some (cost (popc8 j) g + DT N cost d (j ||| 2 ^ g)) := by
          rcases hf with ⟨_, h1⟩ | h0
          · have := full_p8 N (by omega) j (by omega) (mo_none N h1)
            omega
          · exact h0
        obtain ⟨g, rfl, g7, gb, gm⟩ := hg
        refine zb88_47 hT rfl hz (by omega) (by omega) ?_
        obtain ⟨w1, w2⟩ := hvv g g7 gb
        obtain ⟨y1, y2, y3⟩ := y21 g g7
        refine z_costWith (D := D + 1) (m := m) hT hz ((hF1 17 1 rfl).trans hN) e52 (by omega) g7 (by omega) y1 y2 y3 y24 w2 (fun hc => ?_)
        rw [← w1]
        have hv1 := hcr (popc8 j) g g7
        have hv2 := hDT d (j ||| 2 ^ g)
        refine zb88_50 hT rfl hz (by omega) (by dsimp only; omega) (fun hz2 => ?_)
        refine ih _ (by omega) hz2 (hF1.set rfl) (fun y h1 h2 => ?_)
        by_cases e : y = j
        · subst e
          rw [zu_sm rfl, hd]
          exact (DT_some gm).symm
        · rw [zu_off (by omega)]
          exact hD1 y (by omega) h2
  refine zb88_0 hT hB ?_
  rw [hN, z_shl1T N (by omega)]
  exact first (2 ^ N) M0 (Nat.le_refl _) hB zFr.refl (fun y h1 h2 => by omega)
/-- as z_costRx; what lies in 94 stays -/
theorem z_costR94x (hT : zRules T) {D : Nat} {κ : Option zA → zM → Prop} {m M : zM} {sc : zSc} {n k c p : Nat} (hI : Inv B sc n k m) (hBM : zB M) (hA : Agree coreK0 m M) (hc : c < k) (hp : p < n)
    (hk : ∀ M1, (0 ≤ cstV m (lawN m p) c ∧ cstV m (lawN m p) c ≤ 1000) → zB M1 → Agree coreK0 m M1 → Agree KRw M M1 → (∀ j, M1 94 j = M 94 j) → κ (some (zi (cstV m (lawN m p) c))) M1) : T (D + 172) 261 (0, [(0, zr 74), (1, zi (c : Int)), (2, zi (p : Int))], [], M) κ := by
  have i1 := hI.1
  have h4 := hI.2.2.2.1
  have b17 : 0 ≤ m 17 0 ∧ m 17 0 ≤ 6 := i1 17 0
  have b171 : 0 ≤ m 17 1 ∧ m 17 1 ≤ 8 := i1 17 1
  have n1 := h4.1.1
  have k1 := h4.2.1.1
  have bpl := (h4.2.2.2.2.1 p hp).1
  unfold lawN at hk
  obtain ⟨pl, hpl⟩ : ∃ pl : Nat, m 75 p = (pl : Int) := ⟨(m 75 p).toNat, by omega⟩
  rw [hpl, Int.toNat_natCast] at hk
  refine zb261_0 (D := D + 168) hT hBM (by omega) (by omega) ?_
  refine z_lay_75_91 (k := 0) (D := D + 170) hT (by omega) ?_
  have hX2 : Agree KRw M (z_cp M 75 91 0 0 59) := .of (L := [(91, none)]) (zFr.refl.cp (fun _ => rfl)) rfl
  have hA2 : Agree coreK0 m (z_cp M 75 91 0 0 59) := hA.trans (.of (L := [(91, none)]) (zFr.refl.cp (fun _ => rfl)) rfl)
  have hB2 : zB (z_cp M 75 91 0 0 59) := zB_cpB hBM rfl
  have x91 : ∀ j, j < 59 → (z_cp M 75 91 0 0 59) 91 j = m 75 j := fun j hj => by
    rw [z_cp_in (by omega), show 0 + (j - 0) = j by omega]
    exact hA 75 j rfl
  refine zb261_12 (D := D + 168) hT rfl hB2 (by omega) (by omega) (fun hz => ?_)
  have hX3 : Agree KRw M (zu (zu (zu (z_cp M 75 91 0 0 59) 74 31 0) 74 32 0) 74 33 0) := hX2.trans (.of (L := [(74, some 31), (74, some 32), (74, some 33)]) (((zFr.refl.set rfl).set rfl).set rfl) rfl)
  have hA3 : Agree coreK0 m (zu (zu (zu (z_cp M 75 91 0 0 59) 74 31 0) 74 32 0) 74 33 0) := hA2.trans (.of (L := [(74, some 31), (74, some 32), (74, some 33)]) (((zFr.refl.set rfl).set rfl).set rfl) rfl)
  have y91 : ∀ j, j < 59 → (zu (zu (zu (z_cp M 75 91 0 0 59) 74 31 0) 74 32 0) 74 33 0) 91 j = m 75 j := fun j hj => by
    rw [zu_dn (by omega), zu_dn (by omega), zu_dn (by omega), x91 j hj]
  have z94 : ∀ j, (zu (zu (zu (z_cp M 75 91 0 0 59) 74 31 0) 74 32 0) 74 33 0) 94 j = M 94 j := fun j => by
    rw [zu_dn (by omega), zu_dn (by omega), zu_dn (by omega), z_cp_dn (by omega)]
  have hR : RelR 91 (zu (zu (zu (z_cp M 75 91 0 0 59) 74 31 0) 74 32 0) 74 33 0) ((zu (zu (zu (z_cp M 75 91 0 0 59) 74 31 0) 74 32 0) 74 33 0) 91, 0, 0, 0) :=
    ⟨rfl, by simp (disch := omega) only [zu_off, zu_sm], by simp (disch := omega) only [zu_off, zu_sm], by simp (disch := omega) only [zu_sm]⟩
  generalize (zu (zu (zu (z_cp M 75 91 0 0 59) 74 31 0) 74 32 0) 74 33 0) = M3 at hz hX3 hA3 y91 z94 hR ⊢
  refine z_lawInF (d := 0) (pl := pl) hT hI hz (hA3.sub (fun q hq => List.mem_append.mpr (Or.inr (List.mem_append.mpr (Or.inl hq))))) (funext fun j => hA3 78 j rfl) (hA3 75 57 rfl) hp ((hA3 75 p rfl).trans hpl) (by omega) (fun M4 hB4 hF4 => ?_)
  refine zb261_28 (D := D + 168) hT rfl hB4 (by omega) laFB ?_
  have hX4 : Agree KRw M M4 := hX3.trans (.of hF4 rfl)
  have hA4 : Agree coreK0 m M4 := hA3.trans (.of hF4 rfl)
  have hR4 : RelR 91 M4 (M3 91, 0, 0, 0) := ⟨funext fun j => hF4 91 j rfl, (hF4 74 31 rfl).trans hR.2.1, (hF4 74 32 rfl).trans hR.2.2.1, (hF4 74 33 rfl).trans hR.2.2.2⟩
  refine z_makes_91 (D := D + 169) hT hB4 (by omega) laFB hR4 (fun M5 hB5 hF5 hR5 => ?_)
  have b12 : -1 ≤ m 75 (c + 12) ∧ m 75 (c + 12) ≤ 99 := zSg i1 75 12 20 (-1) 99 rfl (c + 12) (by omega) (by omega)
  have b20 : -1 ≤ m 75 (c + 20) ∧ m 75 (c + 20) ≤ 9 := zSg i1 75 20 28 (-1) 9 rfl (c + 20) (by omega) (by omega)
  have hc2 := mkA_cost (h := M4 79 0) (v := laF m p pl 0) (g := M3 91) (c := c) (by rw [y91 (c + 12) (by omega)]; omega) (by rw [y91 (c + 20) (by omega)]; omega) laFB
  refine zb261_31 (D := D + 168) hT rfl hB5 ?_
  have hX5 : Agree KRw M M5 := hX4.trans (.of (hF5.sub mkL91) rfl)
  have hA5 : Agree coreK0 m M5 := hA4.trans (.of (hF5.sub mkL91) rfl)
  have p1 : 0 ≤ M5 79 1 ∧ M5 79 1 ≤ 9 := hB5 79 1
  have p2 : 0 ≤ M5 79 2 ∧ M5 79 2 ≤ 9 := hB5 79 2
  have eL : laF m p pl 0 = LW m (m 18 p) (p : Int) pl (m 17 11) := by
    unfold laF
    rw [show m 17 11 + ((0 : Nat) : Int) = m 17 11 by omega]
  have e79 : ∀ j, j < 3 → M4 79 j = m 24 j := fun j hj => (hA4 79 j rfl).trans (hI.2.2.2.2.1 j hj)
  have e795 : ∀ j, j < 3 → M5 79 j = m 24 j := fun j hj => (hA5 79 j rfl).trans (hI.2.2.2.2.1 j hj)
  have hm := mkA_c (h := m 24 0) (v := laF m p pl 0) (g := m 75) (g2 := M3 91) (c := c) (y91 _ (by omega)) (y91 _ (by omega))
  rw [e79 0 (by omega)] at hc2 hR5
  rw [hm.1, hm.2] at hc2
  rw [Int.mul_comm (M5 79 1), Int.mul_comm (M5 79 2), hR5.2.1, hR5.2.2.1, hm.1, hm.2, e795 1 (by omega), e795 2 (by omega), eL]
  rw [e795 1 (by omega)] at p1
  rw [e795 2 (by omega)] at p2
  rw [eL] at hc2
  have hr := cost_rng hc2.1 hc2.2 p1 p2
  have hr2 : 0 ≤ cstV m (LW m (m 18 p) (p : Int) pl (m 17 11)) c ∧ cstV m (LW m (m 18 p) (p : Int) pl (m 17 11)) c ≤ 1000 := hr
  rw [wr_id (by omega) (by omega)]
  exact hk M5 hr2 hB5 hA5 hX5 (fun j => by rw [(hF5.sub mkL91) 94 j rfl, hF4 94 j rfl, z94 j])
theorem zbt1 {x c : Nat} (hx : x < 256) (hc : c ≤ 8) (q : ¬ (z_and (z_shr (x : Int) (c : Int)) 1) = 1) : x.testBit c = false := by
  rw [z_bit (by omega) (by omega)] at q
  cases hb : x.testBit c with
  | false => rfl
  | true => rw [hb, if_pos rfl] at q; exact absurd rfl q
theorem zbt2 {x c : Nat} (hx : x < 256) (hc : c ≤ 8) (q : (z_and (z_shr (x : Int) (c : Int)) 1) = 1) : x.testBit c = true := by
  rw [z_bit (by omega) (by omega)] at q
  cases hb : x.testBit c with
  | true => rfl
  | false => rw [hb, if_neg (by decide)] at q; cases q
/-- enough cloths, or too few (then nothing is found) -/
theorem z_goDress (hT : zRules T) {N K x : Nat} {cost : Nat → Nat → Int} (hN6 : N ≤ 6) (hK8 : K ≤ 8) (hx : x ≤ 63) (hcr : ∀ i c, c < K → 0 ≤ cost i c ∧ cost i c ≤ 1000) : ∀ (j : Nat) (D : Nat) (κ : Option zA → zM → Prop) (m : zM) (k u : Nat) (t : Int), zB m → m 74 4 = (N : Int) → m 74 6 = (K : Int) → (∀ p c, p < N → c < K → x.testBit p = true → m 94 (8 * p + c) = cost (pcn x p) c) → k + j = N → u < 2 ^ K → popc8 u = pcn x k → (0 ≤ t ∧ t ≤ 1000 * k) → (0 ≤ m 74 47 ∧ m 74 47 ≤ 100000000) → (∀ M, zB M → zFr (inL gdL) m M → M 74 47 = (if pcn x N ≤ K then mnB (m 74 47) (t + DT K cost (pcn x N - pcn x k) u) else m 74 47) → κ none M) →
    T (D + j + 1) 263 (0, [(0, zr 74), (1, zi (k : Int)), (2, zi (x : Int)), (3, zi (u : Int)), (4, zi t)], [], m) κ := by
  have hDT := DT_rng hcr
  have p8 : 2 ^ K ≤ 2 ^ 8 := Nat.pow_le_pow_right (by omega) (by omega)
  intro j
  induction j with
  | zero =>
    intro D κ m k u t hB hN hK h94 hkj hu hp ht h47 hk
    have ek : k = N := by omega
    subst ek
    have hle := pop_le8 K (by omega) u (by omega) hu
    rw [if_pos (by omega), Nat.sub_self, DT, Int.add_zero] at hk
    have w47 := wr_id (a := m 74 47) (by omega) (by omega)
    refine zb263_0 (D := D) hT hB (by omega) hx (by omega) (by omega) (fun _ q => by omega) (fun _ q => by omega) (fun q _ hz => ?_) (fun q => ?_)
    · rw [w47] at q
      have key : ∀ (i c : Nat) (M : zM), c + i = k → zB M → zFr (inL gdL) m M → M 74 47 = t → T (D + 1) 263 (27, [(0, zr 74), (5, zi (c : Int))], [], M) κ := by
        intro i
        induction i with
        | zero =>
          intro c M hc hBM hF h4
          have e54 : M 74 4 = (k : Int) := (hF 74 4 rfl).trans hN
          exact zb263_27 (D := D) hT rfl hBM (by omega) (fun _ => hk M hBM hF (by rw [h4]; unfold mnB; rw [if_pos q])) (fun q => by omega)
        | succ i ih =>
          intro c M hc hBM hF h4
          have e54 : M 74 4 = (k : Int) := (hF 74 4 rfl).trans hN
          exact zb263_27 (D := D) hT rfl hBM (by omega) (fun q => by omega) (fun _ hz2 => ih (c + 1) _ (by omega) hz2 (hF.set rfl) (by rw [zu_dn (by omega)]; exact h4))
      exact key k 0 _ (by omega) hz (zFr.refl.set rfl) (by rw [zu_sm rfl])
    · rw [w47] at q
      exact hk m hB zFr.refl (by unfold mnB; rw [if_neg q])
  | succ j ih =>
    intro D κ m k u t hB hN hK h94 hkj hu hp ht h47 hk
    have w47 := wr_id (a := m 74 47) (by omega) (by omega)
    have hL := hDT (pcn x N - pcn x k) u
    have hmono := pcn_mono (x := x) (a := k + 1) (N - (k + 1))
    rw [show k + 1 + (N - (k + 1)) = N by omega, pcn] at hmono
    refine zb263_0 (D := D + j + 1) hT hB (by omega) hx (by omega) (by omega) (fun _ _ q => ?_) (fun _ _ q => ?_) (fun _ q => by omega) (fun q => ?_)
    · have hb := zbt1 (x := x) (c := k) (by omega) (by omega) q
      have ep : pcn x (k + 1) = pcn x k := by rw [pcn, hb]; rfl
      refine ih D _ m (k + 1) u t hB hN hK h94 (by omega) hu (by rw [ep]; exact hp) (by omega) h47 (fun M hBM hF hM => zb263_76 (D := D + j + 1) hT rfl (hk M hBM hF (by rw [ep] at hM; exact hM)))
    · have hb := zbt2 (x := x) (c := k) (by omega) (by omega) q
      have ep : pcn x (k + 1) = pcn x k + 1 := by rw [pcn, hb]; rfl
      rw [hb, if_pos rfl] at hmono
      obtain ⟨d, hd⟩ : ∃ d : Nat, pcn x N - pcn x k = d + 1 := ⟨pcn x N - pcn x k - 1, by omega⟩
      have loop : ∀ (i c : Nat) (M : zM), c + i = K → zB M → zFr (inL gdL) m M → M 74 47 = (if pcn x N ≤ K then accL (m 74 47) t (mo u (fun c => cost (popc8 u) c + DT K cost d (u ||| 2 ^ c)) c) else m 74 47) → (0 ≤ M 74 47 ∧ M 74 47 ≤ 100000000) → T (D + (j + 1) + 1) 263 (80, [(0, zr 74), (1, zi (k : Int)), (2, zi (x : Int)), (3, zi (u : Int)), (4, zi t), (5, zi (c : Int))], [], M) κ := by
        intro i
        induction i with
        | zero =>
          intro c M hc hBM hF ha hb2
          have ec : c = K := by omega
          subst ec
          have e6 : M 74 6 = (c : Int) := (hF 74 6 rfl).trans hK
          refine zb263_80 (D := D + j + 1) hT rfl hBM (by omega) hx (by omega) (by omega) (by omega) (fun _ => hk M hBM hF ?_) (fun q => by omega) (fun q => by omega)
          rw [ha, hd]
          by_cases hf : pcn x N ≤ c
          · rw [if_pos hf, if_pos hf]
            cases he : mo u (fun q => cost (popc8 u) q + DT c cost d (u ||| 2 ^ q)) c with
            | none =>
              have := full_p8 c (by omega) u (by omega) (mo_none c he)
              omega
            | some b =>
              rw [DT_some he]
              rfl
          · rw [if_neg hf, if_neg hf]
        | succ i ih2 =>
          intro c M hc hBM hF ha hb2
          have e6 : M 74 6 = (K : Int) := (hF 74 6 rfl).trans hK
          have h9 : M 94 (8 * k + c) = cost (popc8 u) c := by
            rw [hF 94 (8 * k + c) rfl, hp]
            exact h94 k c (by omega) (by omega) hb
          have hcc := hcr (popc8 u) c (by omega)
          refine zb263_80 (D := D + j + 1) hT rfl hBM (by omega) hx (by omega) (by omega) (by omega) (fun q => by omega) (fun _ q hz => ?_) (fun _ q => ?_)
          · have hbu := zbt1 (x := u) (c := c) (by omega) (by omega) q
            obtain ⟨e1, e2⟩ := orB8 (x := u) (f := c) (by omega) (by omega)
            rw [e1, h9]
            have hF1 : zFr (inL gdL) m (zu M 95 k (c : Int)) := hF.set rfl
            refine ih D _ _ (k + 1) (u ||| 2 ^ c) (t + cost (popc8 u) c) hz ((hF1 74 4 rfl).trans hN) ((hF1 74 6 rfl).trans hK) (fun p c2 hp1 hc1 hb1 => by rw [hF1 94 (8 * p + c2) rfl]; exact h94 p c2 hp1 hc1 hb1) (by omega) (or_2p hu (by omega)) (by rw [set_p8 c (by omega) u (by omega) hbu, hp, ep]) (by omega) (by rw [zu_dn (by omega)]; exact hb2) (fun M2 hB2 hF2 h2 => ?_)
            rw [zu_dn (by omega), ep, show pcn x N - (pcn x k + 1) = d by omega] at h2
            have h3 : M2 74 47 = (if pcn x N ≤ K then accL (m 74 47) t (mo u (fun c => cost (popc8 u) c + DT K cost d (u ||| 2 ^ c)) (c + 1)) else m 74 47) := by
              rw [h2]
              by_cases hf : pcn x N ≤ K
              · rw [if_pos hf, if_pos hf]
                rw [if_pos hf] at ha
                rw [ha, Int.add_assoc]
                exact accL_step (v := fun c => cost (popc8 u) c + DT K cost d (u ||| 2 ^ c)) hbu
              · rw [if_neg hf, if_neg hf]
                rw [if_neg hf] at ha
                exact ha
            have hLd := hDT d (u ||| 2 ^ c)
            have r47 : 0 ≤ M2 74 47 ∧ M2 74 47 ≤ 100000000 := by
              rw [h2]
              unfold mnB
              split
              · split <;> omega
              · exact hb2
            exact zb263_138 (D := D + j + 1) hT rfl hB2 (by omega) hx (by omega) (by omega) (by omega) (ih2 (c + 1) M2 (by omega) hB2 (hF1.trans hF2) h3 r47)
          · have hbu := zbt2 (x := u) (c := c) (by omega) (by omega) q
            exact ih2 (c + 1) M (by omega) hBM hF (by rw [mo_yes hbu]; exact ha) hb2
      refine loop K 0 m (by omega) hB zFr.refl ?_ h47
      by_cases hf : pcn x N ≤ K
      · rw [if_pos hf]
        rfl
      · rw [if_neg hf]
    · rw [w47] at q
      refine hk m hB zFr.refl ?_
      by_cases hf : pcn x N ≤ K
      · rw [if_pos hf]
        unfold mnB
        rw [if_neg (by omega)]
      · rw [if_neg hf]
theorem w_dress (hT : zRules T) {v : Int} (hv : isI v) : Way T 144 264 [(0, zr 1), (1, zi v)] [(0, zr 74), (1, zi v)] 7 173 B B True := by
  rintro D m sc ⟨n, k, hI⟩ κ hκ
  have hI0 := hI
  obtain ⟨i1, i2, i3, i4, i5, i6, i7, i8, i9, i10, i11⟩ := hI
  obtain ⟨⟨n1, n2⟩, ⟨k1, k2⟩, hh, hRel, hok⟩ := i4
  have b17 : 0 ≤ m 17 0 ∧ m 17 0 ≤ 6 := i1 17 0
  have b171 : 0 ≤ m 17 1 ∧ m 17 1 ≤ 8 := i1 17 1
  have p6 : 2 ^ n ≤ 2 ^ 6 := Nat.pow_le_pow_right (by omega) (by omega)
  have p1 : 1 ≤ 2 ^ n := Nat.one_le_two_pow
  have hcv : ∀ l c, (0 ≤ l ∧ l ≤ 99) → c < k → 0 ≤ cstV m l c ∧ cstV m l c ≤ 1000 := fun l c hl hc => by
    have b12 : -1 ≤ m 75 (c + 12) ∧ m 75 (c + 12) ≤ 99 := zSg i1 75 12 20 (-1) 99 rfl (c + 12) (by omega) (by omega)
    have b20 : -1 ≤ m 75 (c + 20) ∧ m 75 (c + 20) ≤ 9 := zSg i1 75 20 28 (-1) 9 rfl (c + 20) (by omega) (by omega)
    have hv := mkA_cost (h := m 24 0) (v := l) (g := m 75) (c := c) b12.1 b20.1 hl
    exact cost_rng hv.1 hv.2 (i1 24 1) (i1 24 2)
  have lN : ∀ p, 0 ≤ lawN m p ∧ lawN m p ≤ 99 := fun p => by unfold lawN; exact LWB
  have fin : ∀ (κ2 : Option zA → zM → Prop) (a b : Int) (M1 : zM), a = b → (∀ r2 m2, (True → some (zi a) = r2) → (∃ n k, Inv B sc n k m2) → κ2 r2 m2) → zB M1 → Agree coreK0 m M1 → RowP M1 → κ2 (some (zi b)) M1 := fun κ2 a b M1 e h2 hB1 hA1 hr => h2 _ _ (fun _ => by rw [e]) ⟨n, k, Inv_row hA1 hB1 hr hI0⟩
  have rp0 : RowP m := i11.2.2.2
  have rp12 : RowP (zu m 74 12 0) := RowP_fr (.of (L := [(74, some 12)]) (zFr.refl.set rfl) rfl) rp0
  have t12 : ∀ M0, Agree coreK0 m M0 → Agree coreK0 m (zu M0 74 12 0) := fun M0 hA0 => hA0.trans (.of (L := [(74, some 12)]) (zFr.refl.set rfl) rfl)
  have eP : z_shl 1 (n : Int) = ((2 ^ n : Nat) : Int) := z_shl1T n (by omega)
  -- bits of none such
  have no : ¬ (0 ≤ v ∧ v < ((2 ^ n : Nat) : Int)) → κ (some (zi (-1))) m := fun hno => by
    refine hκ _ _ (fun D2 κ2 h2 => ?_)
    refine zb264_0 (D := D2 + 167) hT i1 hv (fun _ hz => fin κ2 (-1) (-1) _ rfl h2 hz (t12 m (fun _ _ _ => rfl)) rp12) (fun _ _ hz => fin κ2 (-1) (-1) _ rfl h2 hz (t12 m (fun _ _ _ => rfl)) rp12) (fun q1 q2 hz => ?_)
    rw [n2, eP] at q2
    generalize 2 ^ n = P at p6 p1 q2 hno
    rw [wr_id (by omega) (by omega)] at q2
    exact absurd ⟨by omega, by omega⟩ hno
  -- the reference, from wherever what matters is the same
  have ref : ∀ (x : Nat) (r : Int) (cost : Nat → Nat → Int) (M0 : zM), v = (x : Int) → x < 2 ^ n → (∀ i c, c < k → 0 ≤ cost i c ∧ cost i c ≤ 1000) → (∀ p c, p < n → c < k → x.testBit p = true → cost (pcn x p) c = cstV m (lawN m p) c) → r = (if pcn x n ≤ k then DT k cost (pcn x n) 0 else -2) → zB M0 → Agree coreK0 m M0 → (pcn x n ≤ k → M0 72 1 = (pcn x n : Int)) → (¬ pcn x n ≤ k → RowP M0) → κ (some (zi r)) M0 := by
    intro x r cost M0 hvx hxn hcr hco hr hB0 hA0 hy1 hy2
    refine hκ _ _ (fun D2 κ2 h2 => ?_)
    have hDT := DT_rng hcr (pcn x n) 0
    have hx63 : x ≤ 63 := by omega
    have hpn := pcn_le x (by omega) n (by omega)
    have hp8 := popc8_8 x (by omega)
    refine zb264_0 (D := D2 + 167) hT hB0 hv (fun q => by omega) (fun _ q => ?_) (fun q1 q2 hz => ?_)
    · rw [hA0 74 4 rfl, n2, eP] at q
      generalize 2 ^ n = P at p6 p1 q hxn
      rw [wr_id (by omega) (by omega)] at q
      omega
    rw [hvx]
    have fin107 : ∀ (i p e : Nat) (M : zM), p + i = n → e = pcn x p → zB M → M 74 11 = (e : Int) → wr (M 74 47) = r → Agree coreK0 m M → M 72 1 = (pcn x n : Int) → T (D2 + 173) 264 (107, [(0, zr 74), (1, zi (x : Int)), (2, zi (p : Int))], [], M) κ2 := by
      intro i
      induction i with
      | zero =>
        intro p e M hp he hBM h11 h47 hA g72
        have e4 : M 74 4 = (n : Int) := (hA 74 4 rfl).trans n2
        refine zb264_107 (D := D2 + 167) hT rfl hBM hx63 (by omega) (fun _ => ?_) (fun q => by omega) (fun q => by omega) (fun q => by omega)
        have ep : p = n := by omega
        exact fin κ2 r _ _ h47.symm h2 hBM hA (RowP.len (by rw [g72, h11, he, ep]))
      | succ i ih =>
        intro p e M hp he hBM h11 h47 hA g72
        have e4 : M 74 4 = (n : Int) := (hA 74 4 rfl).trans n2
        have hpe := pcn_le x (by omega) p (by omega)
        refine zb264_107 (D := D2 + 167) hT rfl hBM hx63 (by omega) (fun q => by omega) (fun _ qb => ih (p + 1) e M (by omega) (by rw [pcn, zbt1 (x := x) (c := p) (by omega) (by omega) qb]; exact he) hBM h11 h47 hA g72) (fun _ _ => by omega) (fun _ qb => ?_)
        refine ih (p + 1) (e + 1) _ (by omega) (by rw [pcn, zbt2 (x := x) (c := p) (by omega) (by omega) qb, he]; rfl) (zB_u (zB_u hBM trivial) ?_) (by rw [zu_sm rfl, h11]; omega) (by rw [zu_off (by omega), zu_dn (by omega)]; exact h47) (hA.trans (.of (L := [(74, some 11), (81, none)]) ((zFr.refl.set rfl).set rfl) rfl)) (by rw [zu_dn (by decide), zu_dn (by decide)]; exact g72)
        show 0 ≤ M 74 11 + 1 ∧ M 74 11 + 1 ≤ 32
        omega
    have h25 : ∀ (i p : Nat) (M : zM), p + i = n → zB M → Agree coreK0 m M → Agree KRw M0 M → (∀ a c, a < p → c < k → M 94 (8 * a + c) = cstV m (lawN m a) c) → T (D2 + 173) 264 (25, [(0, zr 74), (1, zi (x : Int)), (2, zi (p : Int))], [], M) κ2 := by
      intro i
      induction i with
      | zero =>
        intro p M hp hBM hA hQ h94
        have ep : p = n := by omega
        subst ep
        have e4 : M 74 4 = (p : Int) := (hA 74 4 rfl).trans n2
        have e6 : M 74 6 = (k : Int) := (hA 74 6 rfl).trans k2
        refine zb264_25 (D := D2 + 167) hT rfl hBM hx63 (by omega) (fun _ hz2 => ?_) (fun q => by omega)
        have hQ2 : Agree KRw M0 (zu M 74 47 100000000) := hQ.trans (.of (L := [(74, some 47)]) (zFr.refl.set rfl) rfl)
        have hA2 : Agree coreK0 m (zu M 74 47 100000000) := hA.trans (.of (L := [(74, some 47)]) (zFr.refl.set rfl) rfl)
        have hgo := z_goDress (N := p) (K := k) (x := x) (cost := cost) hT (by omega) (by omega) hx63 hcr p (D2 + 171 - p) (fun r m1 => T (D2 + 173) 264 (87, [(0, zr 74), (1, zi (x : Int)), (2, zi (p : Int))], r.toList ++ [], m1) κ2) _ 0 0 0 hz2 ((hA2 74 4 rfl).trans n2) ((hA2 74 6 rfl).trans k2) (fun a c ha hc hb => by rw [zu_dn (by omega), hco a c ha hc hb]; exact h94 a c ha hc) (by omega) (Nat.two_pow_pos k) (by show popc8 0 = 0; decide) (by omega) (by rw [zu_sm rfl]; omega)
        rw [show D2 + 171 - p + p + 1 = D2 + 172 by omega] at hgo
        refine hgo (fun M3 hB3 hF3 h3 => ?_)
        have hA3 : Agree coreK0 m M3 := hA2.trans (.of hF3 rfl)
        have hQ3 : Agree KRw M0 M3 := hQ2.trans (.of hF3 rfl)
        rw [zu_sm rfl, Int.zero_add, show pcn x 0 = 0 from rfl, Nat.sub_zero] at h3
        by_cases hf : pcn x p ≤ k
        · rw [if_pos hf] at h3 hr
          have e47 : M3 74 47 = r := by
            rw [h3, hr]
            unfold mnB
            rw [if_pos (by omega)]
          have ew : wr (M3 74 47) = r := by rw [e47, wr_id (by omega) (by omega)]
          refine zb264_87 (D := D2 + 167) hT rfl hB3 hx63 (fun _ hz4 => ?_) (fun q => by omega)
          exact fin107 p 0 0 _ (by omega) rfl hz4 (by rw [zu_sm rfl]; rfl) (by rw [zu_off (by omega)]; exact ew) (hA3.trans (.of (L := [(74, some 11)]) (zFr.refl.set rfl) rfl)) (by rw [zu_dn (by decide), hQ3 72 1 rfl]; exact hy1 hf)
        · rw [if_neg hf] at h3 hr
          refine zb264_87 (D := D2 + 167) hT rfl hB3 hx63 (fun q => absurd (by rw [h3]; exact wr_id (by omega) (by omega)) q) (fun _ => fin κ2 r (-2) _ hr h2 hB3 hA3 (RowP_fr hQ3 (hy2 hf)))
      | succ i ih =>
        intro p M hp hBM hA hQ h94
        have e4 : M 74 4 = (n : Int) := (hA 74 4 rfl).trans n2
        refine zb264_25 (D := D2 + 167) hT rfl hBM hx63 (by omega) (fun q => by omega) (fun _ => ?_)
        have h35 : ∀ (i2 c : Nat) (M : zM), c + i2 = k → zB M → Agree coreK0 m M → Agree KRw M0 M → (∀ a b, a < p → b < k → M 94 (8 * a + b) = cstV m (lawN m a) b) → (∀ b, b < c → M 94 (8 * p + b) = cstV m (lawN m p) b) → T (D2 + 173) 264 (35, [(0, zr 74), (1, zi (x : Int)), (2, zi (p : Int)), (3, zi (c : Int))], [], M) κ2 := by
          intro i2
          induction i2 with
          | zero =>
            intro c M hc hBM hA hQ h94 h94c
            have e6 : M 74 6 = (k : Int) := (hA 74 6 rfl).trans k2
            refine zb264_35 (D := D2 + 167) hT rfl hBM hx63 (by omega) (by omega) (fun _ => ?_) (fun q => by omega)
            refine ih (p + 1) M (by omega) hBM hA hQ (fun a b ha hb => ?_)
            by_cases e : a = p
            · rw [e]
              exact h94c b (by omega)
            · exact h94 a b (by omega) hb
          | succ i2 ih2 =>
            intro c M hc hBM hA hQ h94 h94c
            have e6 : M 74 6 = (k : Int) := (hA 74 6 rfl).trans k2
            refine zb264_35 (D := D2 + 167) hT rfl hBM hx63 (by omega) (by omega) (fun q => by omega) (fun _ => ?_)
            refine z_costR94x hT hI0 hBM hA (by omega) (by omega) (fun M1 hw hB1 hA1 hX1 h1 => ?_)
            rw [show (8 * (p : Int)) + (c : Int) = ((8 * p + c : Nat) : Int) by omega]
            refine zb264_59 (D := D2 + 167) hT rfl hB1 hx63 (by omega) (by omega) hw (by omega) (fun hz3 => ?_)
            refine ih2 (c + 1) _ (by omega) hz3 (hA1.trans (.of (L := [(94, none)]) (zFr.refl.set rfl) rfl)) ((hQ.trans hX1).trans (.of (L := [(94, none)]) (zFr.refl.set rfl) rfl)) (fun a b ha hb => ?_) (fun b hb => ?_)
            · rw [zu_off (by omega), h1]
              exact h94 a b ha hb
            · by_cases e : b = c
              · rw [e, zu_sm rfl]
              · rw [zu_off (by omega), h1]
                exact h94c b (by omega)
        exact h35 k 0 M (by omega) hBM hA hQ h94 (fun b hb => by omega)
    exact h25 n 0 _ (by omega) hz (t12 M0 hA0) (.of (L := [(74, some 12)]) (zFr.refl.set rfl) rfl) (fun a c ha => by omega)
  have shr : ∀ x : Nat, v = (x : Int) → (z_shr v (m 17 0) = 0 ↔ x < 2 ^ n) := fun x hvx => by
    have e1 : z_shr (x : Int) (n : Int) = ((x / 2 ^ n : Nat) : Int) := by
      have hi := hv.2
      rw [z_shrE _ (by omega), wr_id (by omega) (by omega)]
      exact (Int.natCast_ediv x (2 ^ n)).symm.trans (by rw [Int.natCast_ediv])
    rw [n1, hvx, e1]
    constructor
    · intro q2
      rcases Nat.lt_or_ge x (2 ^ n) with h | h
      · exact h
      · have := Nat.div_pos h (by omega)
        omega
    · intro h
      rw [Nat.div_eq_of_lt h]
      rfl
  refine zb144_0 hT i1 hv (fun q => no (by omega)) (fun q1 q2 => ?_) (fun q1 q2 => ?_)
  rotate_left
  · obtain ⟨x, hvx⟩ : ∃ x : Nat, v = (x : Int) := ⟨v.toNat, by omega⟩
    have : ¬ x < 2 ^ n := fun h => q2 ((shr x hvx).mpr h)
    refine no (fun q => this ?_)
    have := q.2
    generalize 2 ^ n = P at *
    omega
  obtain ⟨x, rfl⟩ : ∃ x : Nat, v = (x : Int) := ⟨v.toNat, by omega⟩
  have hx : x < 2 ^ n := (shr x rfl).mp q2
  have hx63 : x ≤ 63 := by omega
  have epc := pcn_eq n (by omega) x (by omega) hx
  refine z_bitCount (D := D + 5) hT (by omega) ?_
  have p8 := popc8_8 x (by omega)
  -- the costs, by which of those told it is: of a table that holds the laws in their order
  have fewer : ∀ (cost : Nat → Nat → Int) (M0 : zM), (∀ i c, c < k → 0 ≤ cost i c ∧ cost i c ≤ 1000) → (∀ p c, p < n → c < k → x.testBit p = true → cost (pcn x p) c = cstV m (lawN m p) c) → pcn x n ≤ k → zB M0 → Agree coreK0 m M0 → M0 72 1 = (pcn x n : Int) → κ (some (zi (DT k cost (pcn x n) 0))) M0 := fun cost M0 h1 h2 h3 h4 h5 h6 => ref x _ cost M0 rfl hx h1 h2 (by rw [if_pos h3]) h4 h5 (fun _ => h6) (fun q => absurd h3 q)
  refine zb144_22 hT rfl i1 hx63 (by omega) (fun q3 hz => ?_) (fun q3 => ?_)
  rotate_left
  · -- a table of the costs for the reference alone
    refine ref x (-2) (fun i c => cstV m (lawN m (((List.range n).find? (fun p => decide (pcn x p = i) && x.testBit p)).getD 0)) c) m rfl hx (fun i c hc => hcv _ c (lN _) hc) (fun p c hp hc hb => ?_) (by rw [if_neg (by omega)]) i1 (fun _ _ _ => rfl) (fun q => by omega) (fun _ => rp0)
    have : (List.range n).find? (fun q => decide (pcn x q = pcn x p) && x.testBit q) = some p := by
      refine List.find?_range_eq_some.mpr ⟨by simp [hb], List.mem_range.mpr hp, fun q hq => ?_⟩
      by_cases e : x.testBit q = true
      · have h1 := pcn_mono (x := x) (a := q + 1) (p - (q + 1))
        rw [show q + 1 + (p - (q + 1)) = p by omega, pcn, if_pos e] at h1
        have : pcn x q ≠ pcn x p := by omega
        simp [this]
      · simp [e]
    rw [this]
    rfl
  have loop : ∀ (j t : Nat) (M : zM), t + j = n → zB M → zFr (inL [(13, none), (52, some 1), (53, none)]) m M → M 52 1 = (pcn x t : Int) → (∀ p, p < t → x.testBit p = true → M 53 (pcn x p) = lawN m p) → T (D + 7) 144 (44, [(0, zr 1), (1, zi (x : Int)), (2, zi (t : Int))], [], M) κ := by
    intro j
    induction j with
    | zero =>
      intro t M ht hBM hF hc h53
      have et : t = n := by omega
      subst et
      have e17 : M 17 0 = (t : Int) := (hF 17 0 rfl).trans n1
      have hpc := pcn_le x (by omega) t (by omega)
      have hcr : ∀ i c, c < k → 0 ≤ cstV m (M 53 i) c ∧ cstV m (M 53 i) c ≤ 1000 := fun i c hc => hcv _ c (hBM 53 i) hc
      have hDT := DT_rng (K := k) (cost := fun i c => cstV m (M 53 i) c) hcr (pcn x t) 0
      refine zb144_44 hT rfl hBM hx63 (by omega) (fun _ => ?_) (fun q => by omega) (fun q => by omega)
      refine z_dressCh (N := k) (cnt := pcn x t) (m := m) (cost := fun i c => cstV m (M 53 i) c) hT hBM ((hF 17 1 rfl).trans k1) hc (by omega) (fun g hg => ?_) (fun q => hF 24 q rfl) (fun i _ c _ => rfl) hcr (fun M2 hB2 hF2 => ?_)
      · obtain ⟨x1, x2, -⟩ := hRel.2.1 g hg
        rw [hF 21 g rfl, hF 22 g rfl]
        exact ⟨x1, x2, hok.2.2.2 g hg⟩
      have hFa : zFr (inL [(13, none), (52, some 1), (53, none), (57, none), (58, none)]) m M2 := (hF.sub (inL_sub (by decide))).trans (hF2.sub (inL_sub (by decide)))
      have hA : Agree coreK m M2 := .of hFa rfl
      have hr : isI (DT k (fun i c => cstV m (M 53 i) c) (pcn x t) 0) := by unfold isI; omega
      refine zb144_93 hT rfl hB2 hr ?_
      rw [hF2 52 1 rfl, hc]
      have hend : ∀ M3, zB M3 → Agree coreK0 m M3 → M3 72 1 = (pcn x t : Int) → κ (some (zi (DT k (fun i c => cstV m (M 53 i) c) (pcn x t) 0))) M3 := fun M3 h1 h2 h3 => fewer _ M3 hcr (fun p c hp hc hb => by rw [h53 p hp hb]) (by omega) h1 h2 h3
      refine zb48_0_58 (D := D + 4) hT hB2 (by omega) (fun _ hz => ?_) (fun q0 hz => ?_)
      · exact zb144_115 hT rfl hr (hend _ hz (hA.w0.trans (.of (L := [(72, some 1), (73, none)]) ((zFr.refl.set rfl).cp (fun _ => rfl)) rfl)) (by rw [z_cp_dn (by decide), zu_sm rfl] <;> omega))
      · exact zb144_115 hT rfl hr (hend _ hz (hA.w0.trans (.of (L := [(72, some 1), (73, none)]) ((zFr.refl.set rfl).cp (fun _ => rfl)) rfl)) (by rw [z_cp_dn (by decide), zu_sm rfl] <;> omega))
    | succ j ih =>
      intro t M ht hBM hF hc h53
      have e17 : M 17 0 = (n : Int) := (hF 17 0 rfl).trans n1
      have hpc := pcn_le x (by omega) t (by omega)
      refine zb144_44 hT rfl hBM hx63 (by omega) (fun q => by omega) (fun _ q => ?_) (fun _ q => ?_)
      · have hb := zbt1 (x := x) (c := t) (by omega) (by omega) q
        have ep : pcn x (t + 1) = pcn x t := by rw [pcn, hb]; rfl
        refine ih (t + 1) M (by omega) hBM hF (by rw [hc, ep]) (fun p hp hb2 => ?_)
        by_cases e : p = t
        · rw [e, hb] at hb2
          cases hb2
        · exact h53 p (by omega) hb2
      · have hbt := zbt2 (x := x) (c := t) (by omega) (by omega) q
        have ep : pcn x (t + 1) = pcn x t + 1 := by rw [pcn, hbt]; rfl
        obtain ⟨r1, r2⟩ := hRel.1 t (by omega)
        have h18 := (hh t (by omega)).2
        have bpl := (hok.1 t (by omega)).1
        obtain ⟨pl, hpl⟩ : ∃ pl : Nat, m 75 t = (pl : Int) := ⟨(m 75 t).toNat, by omega⟩
        have hA : Agree KL m M := .of hF rfl
        refine z_lawNow (D := D + 2) (pl := pl) hT hBM (by omega) (by rw [hF 18 t rfl]; omega) (by rw [hF 19 t rfl]; omega) (by omega) (hA.law.1 i3).1 (fun M1 hB1 hF1 => ?_)
        have ev : LW M (M 18 t) (t : Int) pl (M 17 11) = lawN m t := by
          unfold lawN
          rw [hA.law.2, hF 18 t rfl, hF 17 11 rfl, hpl, Int.toNat_natCast]
        rw [ev]
        have hF1b := hF1.sub rowL13
        have hFa : zFr (inL [(13, none), (52, some 1), (53, none)]) m M1 := hF.trans (hF1b.sub (inL_sub (by decide)))
        have e52 : M1 52 1 = (pcn x t : Int) := (hF1b 52 1 rfl).trans hc
        refine zb144_73 hT rfl hB1 hx63 (by omega) (lN t) (fun q => by omega) (fun _ hz2 => ?_)
        rw [e52, Int.toNat_natCast] at hz2 ⊢
        refine ih (t + 1) _ (by omega) hz2 ((hFa.set rfl).set rfl) (by rw [zu_sm rfl, ep]; omega) (fun p hp hb2 => ?_)
        rw [zu_dn (by omega)]
        by_cases e : p = t
        · rw [e, zu_sm rfl]
        · have h1 := pcn_mono (x := x) (a := p + 1) (t - (p + 1))
          rw [show p + 1 + (t - (p + 1)) = t by omega, pcn, if_pos hb2] at h1
          rw [zu_off (by omega), hF1b 53 _ rfl]
          exact h53 p (by omega) hb2
  exact loop n 0 _ (by omega) hz (zFr.refl.set rfl) (by rw [zu_sm rfl]; rfl) (fun p hp => absurd hp (Nat.not_lt_zero p))
end ZDressX
