/-! plan(): it ends, and leaves what matters. -/
theorem cost_rng3 {s w p q : Int} (hs : 0 ≤ s ∧ s ≤ 120) (hw : 0 ≤ w ∧ w ≤ 3) (hp : 0 ≤ p ∧ p ≤ 9) (hq : 0 ≤ q ∧ q ≤ 9) : 0 ≤ p * s + q * w ∧ p * s + q * w ≤ 1107 := by
  have h := cost_rng2 hs hw hp hq
  rw [Int.mul_comm p s, Int.mul_comm q w]
  exact h
theorem lc_pos {a b : Int} (ha : -9223372036854775808 ≤ a ∧ a ≤ 9223372036854775807) (hb : -9223372036854775808 ≤ b ∧ b ≤ 9223372036854775807) (h : b < a) : z_lc a b = 1 := by
  unfold z_lc
  rw [wl_id ha.1 ha.2, wl_id hb.1 hb.2, if_pos h]
section ZPlan
variable {T : Nat → Nat → zG → (Option zA → zM → Prop) → Prop} {B : Int}
theorem z_lmin (hT : zRules T) {D : Nat} {κ : Option zA → zM → Prop} {m : zM} {b t U : Int} (hb : b = 9223372036854775807 ∨ (0 ≤ b ∧ b ≤ U)) (ht : 0 ≤ t ∧ t ≤ U) (hU : U ≤ 1000000000000) (hk : ∀ v, (0 ≤ v ∧ v ≤ U) → κ (some (zl v)) m) : T (D + 3) 296 (0, [(0, zl b), (2, zl t)], [], m) κ := by
  have rb : -9223372036854775808 ≤ b ∧ b ≤ 9223372036854775807 := by omega
  refine zb296_0 hT rb (by omega) (fun _ => hk t ht) (fun q => ?_)
  rcases hb with e | e
  · rw [lc_pos rb (by omega) (by omega)] at q
    exact absurd q (by decide)
  · exact hk b e
theorem z_leftFrom0 (hT : zRules T) {D : Nat} {κ : Option zA → zM → Prop} {m M : zM} {sc : zSc} {n k p pl e q : Nat} {a S : Int} (hI : Inv B sc n k m) (hBM : zB M) (hA : Agree coreK m M) (hp : p < n) (hpl : m 75 p = (pl : Int)) (he : e ≤ 19) (ha : 0 ≤ a ∧ a ≤ 99) (hq : (q : Int) ≤ M 79 0) (hS : 0 ≤ S ∧ S ≤ 100000000000)
    (h93 : ∀ j : Nat, (j : Int) ≤ M 79 0 → 0 ≤ M 93 (10 * e + j) ∧ M 93 (10 * e + j) ≤ S)
    (hk : ∀ v M1, (0 ≤ v ∧ v ≤ S + 2000000000) → zB M1 → zFr (inL lbL) M M1 → κ (some (zl v)) M1) : T (D + 172) 257 (0, [(0, zr 74), (1, zi (p : Int)), (2, zi (e : Int)), (3, zi a), (4, zi (q : Int))], [], M) κ := by
  have i1 := hI.1
  have b17 : 0 ≤ m 17 0 ∧ m 17 0 ≤ 6 := i1 17 0
  have n1 := hI.2.2.2.1.1.1
  have b79 : 0 ≤ M 79 0 ∧ M 79 0 ≤ 9 := hBM 79 0
  have p1 : 0 ≤ M 79 1 ∧ M 79 1 ≤ 9 := hBM 79 1
  have p2 : 0 ≤ M 79 2 ∧ M 79 2 ≤ 9 := hBM 79 2
  refine zb257_0 (D := D + 168) hT hBM (by omega) he ha (by omega) ?_
  refine z_lawInF (d := e) (pl := pl) hT hI hBM (hA.sub (fun q hq => List.mem_append.mpr (Or.inr (List.mem_append.mpr (Or.inl hq))))) (funext fun j => hA 78 j rfl) (hA 75 57 rfl) hp ((hA 75 p rfl).trans hpl) (by omega) (fun M1 hB1 hF1 => ?_)
  have hx := laFB (m := m) (p := p) (pl := pl) (k := e)
  generalize laF m p pl e = x at hx ⊢
  have f79 : ∀ j, M1 79 j = M 79 j := fun j => hF1 79 j rfl
  have f93 : ∀ j, M1 93 j = M 93 j := fun j => hF1 93 j rfl
  have loop : ∀ (i t : Nat) (y b : Int), t + i = 10 → (0 ≤ y ∧ y ≤ 108) → ((t = 0 ∧ b = 9223372036854775807) ∨ (0 ≤ b ∧ b ≤ S + 2000000000)) → T (D + 172) 257 (85, [(0, zr 74), (2, zi (e : Int)), (5, zi x), (6, zi y), (7, zl b), (9, zi (t : Int))], [], M1) κ := by
    intro i
    induction i with
    | zero =>
      intro t y b hti hy hb
      refine zb257_85 (D := D + 168) hT rfl hB1 he hx hy (by omega) (by omega) (fun _ => hk b M1 (by omega) hB1 hF1) (fun q => by rw [f79] at q; omega) (fun q => by rw [f79] at q; omega)
    | succ i ih =>
      intro t y b hti hy hb
      have hb2 : b = 9223372036854775807 ∨ (0 ≤ b ∧ b ≤ S + 2000000000) := by omega
      have nx : ∀ v : Int, (0 ≤ v ∧ v ≤ S + 2000000000) → ¬ M1 79 0 < (t : Int) → T (D + 172) 257 (143, [(0, zr 74), (2, zi (e : Int)), (5, zi x), (6, zi y), (7, zl b), (9, zi (t : Int))], [zl v], M1) κ := fun v hv q => by
        rw [f79] at q
        exact zb257_143 (D := D + 168) hT rfl hB1 he hx hy (by omega) (by omega) (ih (t + 1) y v (by omega) hy (Or.inr hv))
      refine zb257_85 (D := D + 168) hT rfl hB1 he hx hy (by omega) (by omega) (fun q => hk b M1 (by rw [f79] at q; omega) hB1 hF1) (fun q q2 => ?_) (fun q q2 => ?_)
      · have q' := q
        rw [f79] at q'
        have h1 := cost_rng3 (s := (x - y) + (t : Int)) (w := 3) (p := M1 79 1) (q := M1 79 2) (by omega) (by omega) (by rw [f79]; exact p1) (by rw [f79]; exact p2)
        have h2 := h93 t (by omega)
        rw [f93]
        generalize M1 79 1 * ((x - y) + (t : Int)) + M1 79 2 * 3 = c at h1 ⊢
        rw [wr_id (by omega) (by omega)]
        exact z_lmin (D := D + 168) (U := S + 2000000000) hT hb2 (by omega) (by omega) (fun v hv => nx v hv q)
      · have q' := q
        rw [f79] at q'
        have h1 := cost_rng3 (s := 0) (w := 2) (p := M1 79 1) (q := M1 79 2) (by omega) (by omega) (by rw [f79]; exact p1) (by rw [f79]; exact p2)
        have h2 := h93 t (by omega)
        rw [f93]
        generalize M1 79 1 * 0 + M1 79 2 * 2 = c at h1 ⊢
        exact z_lmin (D := D + 168) (U := S + 2000000000) hT hb2 (by omega) (by omega) (fun v hv => nx v hv q)
  refine zb257_6 (D := D + 168) hT rfl hB1 he ha (by omega) hx (fun _ _ => loop 10 0 _ _ (by omega) (by omega) (Or.inl ⟨rfl, rfl⟩)) (fun _ _ _ => loop 10 0 _ _ (by omega) (by omega) (Or.inl ⟨rfl, rfl⟩)) (fun _ q1 q2 => ?_) (fun _ => ?_)
  · rw [f79] at q2
    have h1 := cost_rng3 (s := 0) (w := 1) (p := M1 79 1) (q := M1 79 2) (by omega) (by omega) (by rw [f79]; exact p1) (by rw [f79]; exact p2)
    have h2 := h93 ((a + (q : Int)) - x).toNat (by omega)
    rw [show (((10 * (e : Int)) + (a + (q : Int))) - x).toNat = 10 * e + ((a + (q : Int)) - x).toNat by omega, f93]
    generalize M1 79 1 * 0 + M1 79 2 * 1 = c at h1 ⊢
    exact hk _ M1 (by omega) hB1 hF1
  · rw [f93]
    have h2 := h93 q hq
    exact hk _ M1 (by omega) hB1 hF1
theorem w_plan0 (hT : zRules T) {p nn : Int} (hp : isI p) (hn : isI nn) : Way T 140 258 [(0, zr 1), (1, zi p), (2, zi nn)] [(0, zr 74), (1, zi p), (2, zi nn)] 7 173 B B False := by
  rintro D m sc ⟨n, k, hI⟩ κ hκ
  have hI0 := hI
  obtain ⟨i1, i2, i3, i4, i5, i6, i7, i8, i9, i10, i11⟩ := hI
  obtain ⟨⟨n1, n2⟩, ⟨k1, k2⟩, hh, hRel, hok⟩ := i4
  have b17 : 0 ≤ m 17 0 ∧ m 17 0 ≤ 6 := i1 17 0
  have ref : ∀ (r : Option zA) (M0 : zM), zB M0 → Agree coreK m M0 → κ r M0 := by
    intro r M0 hB0 hA0
    refine hκ _ _ (fun D2 κ2 h2 => ?_)
    have t12 : Agree coreK m (zu M0 74 12 0) := hA0.trans (.of (L := [(74, some 12)]) (zFr.refl.set rfl) rfl)
    have fin : ∀ r2 M1, zB M1 → Agree coreK m M1 → κ2 r2 M1 := fun r2 M1 hB1 hA1 => h2 _ _ (fun x => x.elim) ⟨n, k, Inv_fr hA1 hB1 hI0⟩
    have e4 : M0 74 4 = (n : Int) := (hA0 74 4 rfl).trans n2
    refine zb258_0 (D := D2 + 168) hT hB0 hp hn (fun _ hz => fin _ _ hz t12) (fun _ _ hz => fin _ _ hz t12) (fun _ _ _ hz => fin _ _ hz t12) (fun _ _ _ _ hz => fin _ _ hz t12) (fun q1 q2 q3 q4 hz => ?_)
    obtain ⟨a, rfl⟩ : ∃ a : Nat, p = (a : Int) := ⟨p.toNat, by omega⟩
    obtain ⟨N, rfl⟩ : ∃ N : Nat, nn = (N : Int) := ⟨nn.toNat, by omega⟩
    have bpl := (hok.1 a (by omega)).1
    obtain ⟨pl, hpl⟩ : ∃ pl : Nat, m 75 a = (pl : Int) := ⟨(m 75 a).toNat, by omega⟩
    have law : ∀ (d : Nat) (D3 : Nat) (κ3 : Option zA → zM → Prop) (M : zM), zB M → Agree coreK m M → d ≤ 20 → (∀ v M1, (0 ≤ v ∧ v ≤ 99) → zB M1 → zFr (inL lbL) M M1 → κ3 (some (zi v)) M1) → T (D3 + 171) 216 (0, [(0, zr 74), (1, zi (a : Int)), (2, zi (d : Int))], [], M) κ3 := fun d D3 κ3 M hBM hA hd h3 =>
      z_lawInF (d := d) (pl := pl) hT hI0 hBM (hA.sub (fun q hq => List.mem_append.mpr (Or.inr (List.mem_append.mpr (Or.inl hq))))) (funext fun j => hA 78 j rfl) (hA 75 57 rfl) (by omega) ((hA 75 a rfl).trans hpl) (by omega) (fun M1 hB1 hF1 => h3 _ M1 laFB hB1 hF1)
    -- the end: the best hem to begin with
    have h125 : ∀ (i t f : Nat) (b : Int) (M : zM), t + i = 10 → f ≤ 9 → (b = 9223372036854775807 ∨ (0 ≤ b ∧ b ≤ 100000000000)) → zB M → Agree coreK m M → (∀ j : Nat, (j : Int) ≤ M 79 0 → 0 ≤ M 93 j ∧ M 93 j ≤ 50000000000) → T (D2 + 173) 258 (125, [(0, zr 74), (1, zi (a : Int)), (3, zl b), (5, zi (f : Int)), (6, zi (t : Int))], [], M) κ2 := by
      intro i
      induction i with
      | zero =>
        intro t f b M ht hf hb hBM hA h93
        have b79 : 0 ≤ M 79 0 ∧ M 79 0 ≤ 9 := hBM 79 0
        exact zb258_125 (D := D2 + 168) hT rfl hBM (by omega) (by omega) hf (by omega) (fun _ hz2 => fin _ _ hz2 (hA.trans (.of (L := [(74, some 11), (81, none)]) (((((zFr.refl.set rfl).set rfl).set rfl).set rfl).set rfl) rfl))) (fun q => by omega)
      | succ i ih =>
        intro t f b M ht hf hb hBM hA h93
        have b79 : 0 ≤ M 79 0 ∧ M 79 0 ≤ 9 := hBM 79 0
        refine zb258_125 (D := D2 + 168) hT rfl hBM (by omega) (by omega) hf (by omega) (fun _ hz2 => fin _ _ hz2 (hA.trans (.of (L := [(74, some 11), (81, none)]) (((((zFr.refl.set rfl).set rfl).set rfl).set rfl).set rfl) rfl))) (fun q => ?_)
        refine law 0 (D2 + 1) _ M hBM hA (by omega) (fun v M1 hv hB1 hF1 => ?_)
        have hA1 : Agree coreK m M1 := hA.trans (.of hF1 rfl)
        have f79 : M1 79 0 = M 79 0 := hF1 79 0 rfl
        have p1 : 0 ≤ M1 79 1 ∧ M1 79 1 ≤ 9 := hB1 79 1
        have p2 : 0 ≤ M1 79 2 ∧ M1 79 2 ≤ 9 := hB1 79 2
        have c93 : ∀ j : Nat, (j : Int) ≤ M1 79 0 → 0 ≤ M1 93 j ∧ M1 93 j ≤ 50000000000 := fun j hj => by
          rw [hF1 93 j rfl]
          exact h93 j (by omega)
        have h1 := cost_rng3 (s := v + (t : Int)) (w := 0) (p := M1 79 1) (q := M1 79 2) (by omega) (by omega) p1 p2
        have h2 := c93 t (by omega)
        refine zb258_143 (D := D2 + 168) hT rfl hB1 (by omega) (by omega) hf (by omega) hv (fun _ => ?_) (fun _ => ih (t + 1) f b M1 (by omega) hf hb hB1 hA1 c93)
        generalize M1 79 1 * (v + (t : Int)) + M1 79 2 * 0 = c at h1 ⊢
        exact ih (t + 1) t _ M1 (by omega) (by omega) (Or.inr (by omega)) hB1 hA1 c93
    -- the weeks, the last first
    have h57 : ∀ (r : Nat) (M : zM), r + 1 ≤ N → zB M → Agree coreK m M → (∀ j : Nat, (j : Int) ≤ M 79 0 → 0 ≤ M 93 (10 * r + j) ∧ M 93 (10 * r + j) ≤ 2000000000 * ((20 - r : Nat) : Int)) → T (D2 + 173) 258 (57, [(0, zr 74), (1, zi (a : Int)), (3, zi ((r : Int) - 1))], [], M) κ2 := by
      intro r
      induction r with
      | zero =>
        intro M hr hBM hA h93
        refine zb258_57 (D := D2 + 168) hT rfl hBM (by omega) (by omega) (fun _ => ?_) (fun q => by omega)
        exact h125 10 0 0 _ M (by omega) (by omega) (Or.inl rfl) hBM hA (fun j hj => by
          have := h93 j hj
          rw [show 10 * 0 + j = j by omega] at this
          omega)
      | succ r ih =>
        intro M hr hBM hA h93
        rw [show ((r + 1 : Nat) : Int) - 1 = (r : Int) by omega]
        refine zb258_57 (D := D2 + 168) hT rfl hBM (by omega) (by omega) (fun q => by omega) (fun _ => ?_)
        have row : ∀ (i t : Nat) (M : zM), t + i = 10 → zB M → Agree coreK m M → (∀ j : Nat, (j : Int) ≤ M 79 0 → 0 ≤ M 93 (10 * (r + 1) + j) ∧ M 93 (10 * (r + 1) + j) ≤ 2000000000 * ((20 - (r + 1) : Nat) : Int)) → (∀ j : Nat, j < t → 0 ≤ M 93 (10 * r + j) ∧ M 93 (10 * r + j) ≤ 2000000000 * ((20 - r : Nat) : Int)) → T (D2 + 173) 258 (64, [(0, zr 74), (1, zi (a : Int)), (3, zi (r : Int)), (4, zi (t : Int))], [], M) κ2 := by
          intro i
          induction i with
          | zero =>
            intro t M ht hBM hA h93 hr0
            have b79 : 0 ≤ M 79 0 ∧ M 79 0 ≤ 9 := hBM 79 0
            refine zb258_64 (D := D2 + 168) hT rfl hBM (by omega) (by omega) (by omega) (fun _ => ?_) (fun q => by omega)
            exact ih M (by omega) hBM hA (fun j hj => hr0 j (by omega))
          | succ i ih2 =>
            intro t M ht hBM hA h93 hr0
            have b79 : 0 ≤ M 79 0 ∧ M 79 0 ≤ 9 := hBM 79 0
            refine zb258_64 (D := D2 + 168) hT rfl hBM (by omega) (by omega) (by omega) (fun q => ?_) (fun q => ?_)
            · exact ih M (by omega) hBM hA (fun j hj => hr0 j (by omega))
            refine law r (D2 + 1) _ M hBM hA (by omega) (fun v M1 hv hB1 hF1 => ?_)
            have hA1 : Agree coreK m M1 := hA.trans (.of hF1 rfl)
            have f79 : M1 79 0 = M 79 0 := hF1 79 0 rfl
            rw [show (r : Int) + 1 = ((r + 1 : Nat) : Int) by omega, show (10 * (r : Int)) + (t : Int) = ((10 * r + t : Nat) : Int) by omega]
            refine zb258_97 (D := D2 + 168) hT rfl hB1 (by omega) (by omega) (by omega) hv (by omega) (by omega) ?_
            refine z_leftFrom0 (pl := pl) (S := 2000000000 * ((20 - (r + 1) : Nat) : Int)) hT hI0 hB1 hA1 (by omega) hpl (by omega) hv (by omega) (by omega) (fun j hj => by rw [hF1 93 (10 * (r + 1) + j) rfl]; exact h93 j (by omega)) (fun w M2 hw hB2 hF2 => ?_)
            have hFa := hF1.trans hF2
            have hA2 : Agree coreK m M2 := hA1.trans (.of hF2 rfl)
            refine zb258_102 (D := D2 + 168) hT rfl hB2 (by omega) (by omega) (by omega) (by omega) (by omega) (fun hz3 => ?_)
            refine ih2 (t + 1) _ (by omega) hz3 (hA2.trans (.of (L := [(93, none)]) (zFr.refl.set rfl) rfl)) (fun j hj => ?_) (fun j hj => ?_)
            · rw [zu_dn (by omega), hFa 79 0 rfl] at hj
              rw [zu_off (by omega), hFa 93 (10 * (r + 1) + j) rfl]
              exact h93 j hj
            · by_cases ej : j = t
              · rw [ej, zu_sm rfl]
                omega
              · rw [zu_off (by omega), hFa 93 (10 * r + j) rfl]
                exact hr0 j (by omega)
        exact row 10 0 M (by omega) hBM hA h93 (fun j hj => by omega)
    have h27 : ∀ (i t : Nat) (M : zM), t + i = 10 → zB M → Agree coreK m M → (∀ j : Nat, j < t → M 93 (10 * (N - 1) + j) = 0) → T (D2 + 173) 258 (27, [(0, zr 74), (1, zi (a : Int)), (2, zi (N : Int)), (3, zi (t : Int))], [], M) κ2 := by
      intro i
      induction i with
      | zero =>
        intro t M ht hBM hA h0
        have b79 : 0 ≤ M 79 0 ∧ M 79 0 ≤ 9 := hBM 79 0
        refine zb258_27 (D := D2 + 168) hT rfl hBM (by omega) (by omega) (by omega) (fun _ => ?_) (fun q => by omega) (fun q => by omega)
        rw [show (N : Int) - 2 = ((N - 1 : Nat) : Int) - 1 by omega]
        exact h57 (N - 1) M (by omega) hBM hA (fun j hj => by rw [h0 j (by omega)]; omega)
      | succ i ih =>
        intro t M ht hBM hA h0
        have ei : ((10 * ((N : Int) - 1)) + (t : Int)).toNat = 10 * (N - 1) + t := by omega
        refine zb258_27 (D := D2 + 168) hT rfl hBM (by omega) (by omega) (by omega) (fun q => by omega) (fun _ => by omega) (fun _ hz2 => ?_)
        rw [ei] at hz2 ⊢
        refine ih (t + 1) _ (by omega) hz2 (hA.trans (.of (L := [(93, none)]) (zFr.refl.set rfl) rfl)) (fun j hj => ?_)
        by_cases ej : j = t
        · rw [ej, zu_sm rfl]
        · rw [zu_off (by omega)]
          exact h0 j (by omega)
    exact h27 10 0 _ (by omega) hz t12 (fun j hj => by omega)
  refine zb140_0 hT i1 hp hn (fun _ => ref _ _ i1 (fun _ _ _ => rfl)) (fun _ _ => ref _ _ i1 (fun _ _ _ => rfl)) (fun _ _ _ => ref _ _ i1 (fun _ _ _ => rfl)) (fun q1 q2 q3 q4 => ?_) (fun _ _ _ _ => ref _ _ i1 (fun _ _ _ => rfl))
  obtain ⟨a, rfl⟩ : ∃ a : Nat, p = (a : Int) := ⟨p.toNat, by omega⟩
  obtain ⟨N, rfl⟩ : ∃ N : Nat, nn = (N : Int) := ⟨nn.toNat, by omega⟩
  obtain ⟨h78, h18⟩ := hh a (by omega)
  obtain ⟨r1, r2⟩ := hRel.1 a (by omega)
  have bpl := (hok.1 a (by omega)).1
  obtain ⟨pl, hpl⟩ : ∃ pl : Nat, m 75 a = (pl : Int) := ⟨(m 75 a).toNat, by omega⟩
  rw [Int.toNat_natCast, r1, hpl]
  refine z_lookAhead (D := D + 1) hT i1 (by omega) (by omega) (by omega) (by omega) i3 (fun m1 hB2 hF1 g1 g2 => ?_)
  refine zb140_39 hT rfl hB2 ?_
  refine z_planCh0 (N := N) hT hB2 g1 (by omega) (fun v M hv hBM hF2 => ?_)
  have hFa : zFr (inL [(13, none), (52, some 1), (52, some 5), (52, some 6), (53, none), (55, none), (56, none)]) m M := (hF1.sub (inL_sub (by decide))).trans (hF2.sub (inL_sub (by decide)))
  have hA : Agree coreK m M := .of hFa rfl
  exact zb140_50 hT rfl hBM hv (fun hz => ref _ _ hz (hA.trans (.of (L := [(72, some 1), (73, none)]) (((zFr.refl.set rfl).set rfl).set rfl) rfl)))
end ZPlan
