/-! The fewest pieces, and the least set of those that sum to the least: by the class. -/
/-- as bits: how many of the first i can sum to s -/
noncomputable def b_w (f : Nat → Int) : Nat → Int → Nat
  | 0, s => if s = 0 then 1 else 0
  | i + 1, s => if s < f i then b_w f i s else b_w f i s ||| 2 * b_w f i (s - f i)
theorem b_w_lt {f : Nat → Int} : ∀ i s, b_w f i s < 2 ^ (i + 1)
  | 0, s => by
    rw [b_w]
    split <;> decide
  | i + 1, s => by
    have h1 := b_w_lt (f := f) i s
    have h2 := b_w_lt (f := f) i (s - f i)
    have h3 : 2 ^ (i + 1 + 1) = 2 ^ (i + 1) + 2 ^ (i + 1) := by rw [Nat.pow_succ (n := 2) (m := i + 1)]; omega
    rw [b_w]
    split
    · omega
    · exact Nat.or_lt_two_pow (by omega) (by omega)
theorem b_dbl (w : Nat) : (2 * w).testBit 0 = false ∧ ∀ j, (2 * w).testBit (j + 1) = w.testBit j := ⟨(b_2h0 w).2, fun j => (b_2h1 w j).2⟩
theorem b_w_bit {f : Nat → Int} (hf : ∀ q, 0 ≤ f q) : ∀ i s j, (b_w f i s).testBit j = b_mk f i j s
  | 0, s, j => by
    rw [b_w, b_mk]
    by_cases e : s = 0
    · rw [if_pos e, decide_eq_true e, Bool.and_true]
      cases j with
      | zero => rfl
      | succ j =>
        rw [Nat.testBit_succ, decide_eq_false (by omega)]
        exact Nat.zero_testBit j
    · rw [if_neg e, decide_eq_false e, Bool.and_false, Nat.zero_testBit]
  | i + 1, s, j => by
    rw [b_w]
    by_cases e : s < f i
    · rw [if_pos e, b_w_bit hf i s j]
      cases j with
      | zero => rw [b_mk]
      | succ j =>
        rw [b_mk]
        cases hm : b_mk f i j (s - f i) with
        | false => rw [Bool.or_false]
        | true =>
          have := b_mk_tot hf i j _ hm
          omega
    · rw [if_neg e, Nat.testBit_or, b_w_bit hf i s j]
      cases j with
      | zero => rw [(b_dbl _).1, Bool.or_false, b_mk]
      | succ j => rw [(b_dbl _).2, b_w_bit hf i (s - f i) j, b_mk]
theorem z_shl1N {w : Nat} (hw : w < 1073741824) : z_shl (w : Int) 1 = ((2 * w : Nat) : Int) := by
  unfold z_shl
  have e0 : (Int32.ofInt 1 &&& 31) = (1 : Int32) := by decide +kernel
  rw [e0]
  have e1 : (Int32.ofInt (w : Int) <<< (1 : Int32)).toBitVec.toNat = 2 * w := by
    show ((Int32.ofInt (w : Int)).toBitVec <<< ((1 : Int32).toBitVec.smod 32)).toNat = _
    have e2 : ((1 : Int32).toBitVec.smod 32) = 1#32 := by decide +kernel
    rw [e2]
    show ((Int32.ofInt (w : Int)).toBitVec <<< (1#32).toNat).toNat = _
    rw [BitVec.toNat_shiftLeft, zn_nat (by omega), Nat.shiftLeft_eq, show (1#32).toNat = 1 from rfl]
    omega
  have e2 := s_ofnat (z := (Int32.ofInt (w : Int) <<< (1 : Int32))) (by omega)
  omega
theorem bsum_tot {f : Nat → Int} : ∀ (j i : Nat), bsum f i (j + 1) = bsum f i j + f (i + j)
  | 0, i => by
    rw [bsum, bsum, bsum, Nat.add_zero]
    omega
  | j + 1, i => by
    have h := bsum_tot (f := f) j (i + 1)
    have e1 : bsum f i (j + 1) = f i + bsum f (i + 1) j := rfl
    rw [bsum, h, e1, show i + 1 + j = i + (j + 1) by omega]
    omega
theorem bsum_b_tot {f : Nat → Int} : ∀ n, bsum f 0 n = b_tot f n
  | 0 => rfl
  | n + 1 => by rw [bsum_tot n 0, bsum_b_tot n, b_tot, Nat.zero_add]
/-- the pieces, none behind the twentieth -/
noncomputable def b_pf (f : Nat → Int) : Nat → Int := fun q => if q < 20 then f q else 0
section ZChoose
variable {T : Nat → Nat → zG → (Option zA → zM → Prop) → Prop}
theorem z_bcnt (hT : zRules T) {D : Nat} {κ : Option zA → zM → Prop} {m : zM} {j : Nat} (hj : j ≤ 20) (h : κ (some (zi (j : Int))) m) : T (D + 1) 293 (0, [(0, zi (((2 ^ j : Nat) : Int) - 1))], [], m) κ := by
  have p1 : 1 ≤ 2 ^ j := Nat.one_le_two_pow
  have p2 : 2 ^ j ≤ 2 ^ 20 := Nat.pow_le_pow_right (by omega) hj
  refine zb293_0 hT (by omega) (k_eq h ?_)
  clear p1 p2 h
  revert j
  decide +kernel
/-- the rows of sums -/
theorem z_reach (hT : zRules T) {D : Nat} {κ : Option zA → zM → Prop} {m : zM} {n e : Nat} {f : Nat → Int} (hB : zB m) (hn : m 25 2 = (n : Int)) (he : e ≤ 1106) (hf : f = b_pf (m 26))
    (hk : ∀ M, zB M → zFr (inL [(27, none)]) m M → (∀ i s : Nat, i ≤ n → s ≤ e → M 27 (i * 1107 + s) = (b_w f i s : Int)) → κ none M) : T (D + 1) 12 (0, [(0, zr 25), (1, zi (e : Int))], [], m) κ := by
  have b25 : 0 ≤ m 25 2 ∧ m 25 2 ≤ 20 := hB 25 2
  have hp : ∀ q, 0 ≤ m 26 q ∧ m 26 q ≤ 108 := fun q => hB 26 q
  have second : ∀ (j i : Nat) (M : zM), i + j = n → zB M → zFr (inL [(27, none)]) m M → (∀ a s : Nat, a ≤ i → s ≤ e → M 27 (a * 1107 + s) = (b_w f a s : Int)) → T (D + 1) 12 (30, [(0, zr 25), (1, zi (e : Int)), (2, zi (i : Int))], [], M) κ := by
    intro j
    induction j with
    | zero =>
      intro i M hi hBM hF hx
      have e25 : M 25 2 = (n : Int) := (hF 25 2 rfl).trans hn
      exact zb12_30 hT rfl hBM he (by omega) (fun _ => hk M hBM hF (fun a s h1 h2 => hx a s (by omega) h2)) (fun q => by omega)
    | succ j ih =>
      intro i M hi hBM hF hx
      have e25 : M 25 2 = (n : Int) := (hF 25 2 rfl).trans hn
      refine zb12_30 hT rfl hBM he (by omega) (fun q => by omega) (fun _ => ?_)
      rw [show (i : Int) * 1107 = ((i * 1107 : Nat) : Int) by omega]
      have fi : f i = m 26 i := by
        rw [hf]
        exact if_pos (by omega)
      have inner : ∀ (d s : Nat) (M2 : zM), s + d = e + 1 → zB M2 → zFr (inL [(27, none)]) m M2 → (∀ a s : Nat, a ≤ i → s ≤ e → M2 27 (a * 1107 + s) = (b_w f a s : Int)) → (∀ t : Nat, t < s → M2 27 ((i + 1) * 1107 + t) = (b_w f (i + 1) t : Int)) → T (D + 1) 12 (47, [(0, zr 25), (1, zi (e : Int)), (2, zi (i : Int)), (3, zi ((i * 1107 : Nat) : Int)), (4, zi (s : Int))], [], M2) κ := by
        intro d
        induction d with
        | zero =>
          intro s M2 hs hB2 hF2 g1 g2
          refine zb12_47 hT rfl hB2 he (by omega) (by omega) (by omega) (fun _ => ?_) (fun q => by omega) (fun q => by omega)
          refine ih (i + 1) M2 (by omega) hB2 hF2 (fun a t h1 h2 => ?_)
          by_cases ea : a = i + 1
          · rw [ea]
            exact g2 t (by omega)
          · exact g1 a t (by omega) h2
        | succ d ih2 =>
          intro s M2 hs hB2 hF2 g1 g2
          have e26 : M2 26 i = f i := (hF2 26 i rfl).trans fi.symm
          have g0 := g1 i s (Nat.le_refl i) (by omega)
          have wl1 := b_w_lt (f := f) i s
          have wl2 := b_w_lt (f := f) i ((s : Int) - f i)
          have p21 : 2 ^ (i + 1) ≤ 2 ^ 20 := Nat.pow_le_pow_right (by omega) (by omega)
          have go : ∀ (V : Int) (hz : zB (zu M2 27 (i * 1107 + s + 1107) V)), V = (b_w f (i + 1) s : Int) → T (D + 1) 12 (47, [(0, zr 25), (1, zi (e : Int)), (2, zi (i : Int)), (3, zi ((i * 1107 : Nat) : Int)), (4, zi ((s : Int) + 1))], [], zu M2 27 (i * 1107 + s + 1107) V) κ := by
            intro V hz hV
            refine ih2 (s + 1) _ (by omega) hz (hF2.set rfl) (fun a t h1 h2 => ?_) (fun t ht => ?_)
            · rw [zu_off (by omega), g1 a t h1 h2]
            · by_cases et : t = s
              · rw [et, zu_sm (by omega), hV]
              · rw [zu_off (by omega), g2 t (by omega)]
          refine zb12_47 hT rfl hB2 he (by omega) (by omega) (by omega) (fun q => by omega) (fun _ q hz => go _ hz ?_) (fun _ q hz => go _ hz ?_)
          · rw [e26] at q
            rw [g0, b_w, if_pos q]
          · rw [e26] at q ⊢
            have bf := hp i
            rw [← fi] at bf
            obtain ⟨c, hc⟩ : ∃ c : Nat, (s : Int) - f i = (c : Int) := ⟨((s : Int) - f i).toNat, by omega⟩
            have ei : (((i * 1107 : Nat) : Int) + (s : Int) - f i).toNat = i * 1107 + c := by omega
            rw [hc] at wl2
            rw [ei, g0, g1 i c (Nat.le_refl i) (by omega), z_shl1N (by omega), z_orN (by omega) (by omega), b_w, if_neg q, hc]
      refine inner (e + 1) 0 M (by omega) hBM hF (fun a s h1 h2 => hx a s (by omega) h2) (fun t ht => by omega)
  have first : ∀ (d s : Nat) (M : zM), s + d = e + 1 → zB M → zFr (inL [(27, none)]) m M → (∀ t : Nat, t < s → M 27 t = (b_w f 0 t : Int)) → T (D + 1) 12 (2, [(0, zr 25), (1, zi (e : Int)), (2, zi (s : Int))], [], M) κ := by
    intro d
    induction d with
    | zero =>
      intro s M hs hBM hF g
      refine zb12_2 hT rfl hBM he (by omega) (fun _ => ?_) (fun q => by omega) (fun q => by omega)
      refine second n 0 M (by omega) hBM hF (fun a t h1 h2 => ?_)
      have : a = 0 := by omega
      subst this
      rw [Nat.zero_mul, Nat.zero_add]
      exact g t (by omega)
    | succ d ih =>
      intro s M hs hBM hF g
      refine zb12_2 hT rfl hBM he (by omega) (fun q => by omega) (fun _ q hz => ?_) (fun _ q hz => ?_)
      · refine ih (s + 1) _ (by omega) hz (hF.set rfl) (fun t ht => ?_)
        by_cases et : t = s
        · rw [et, zu_sm rfl, b_w, if_neg (by omega)]
          rfl
        · rw [zu_off (by omega), g t (by omega)]
      · refine ih (s + 1) _ (by omega) hz (hF.set rfl) (fun t ht => ?_)
        by_cases et : t = s
        · rw [et, zu_sm rfl, b_w, if_pos (by omega)]
          rfl
        · rw [zu_off (by omega), g t (by omega)]
  exact zb12_0 hT hB he (first (e + 1) 0 m (by omega) hB zFr.refl (fun t ht => by omega))
/-- the least set of w that sum to l -/
theorem z_leastB (hT : zRules T) {D : Nat} {κ : Option zA → zM → Prop} {m : zM} {n e w l : Nat} {f : Nat → Int} (hB : zB m) (hn : m 25 2 = (n : Int)) (he : e ≤ 1106) (hf : f = b_pf (m 26)) (hw : ∀ i s : Nat, i ≤ n → s ≤ e → m 27 (i * 1107 + s) = (b_w f i s : Int)) (hl : l ≤ e) (hmk : b_mk f n w l = true) (hk : κ (some (zi (b_pick f n w l : Int))) m) : T (D + 1) 13 (0, [(0, zr 25), (1, zi (w : Int)), (2, zi (l : Int))], [], m) κ := by
  have b25 : 0 ≤ m 25 2 ∧ m 25 2 ≤ 20 := hB 25 2
  have hp : ∀ q, 0 ≤ m 26 q ∧ m 26 q ≤ 108 := fun q => hB 26 q
  have hf0 : ∀ q, 0 ≤ f q := fun q => by
    rw [hf]
    unfold b_pf
    have := hp q
    split <;> omega
  have fl := b_pick_lt (f := f) n w l
  have pn : 2 ^ n ≤ 2 ^ 20 := Nat.pow_le_pow_right (by omega) (by omega)
  have loop : ∀ (t c w2 l2 : Nat), t ≤ n → l2 ≤ e → b_mk f t w2 l2 = true → 2 ^ t * c + b_pick f t w2 l2 = b_pick f n w l → T (D + 1) 13 (16, [(0, zr 25), (3, zi ((2 ^ t * c : Nat) : Int)), (4, zi (w2 : Int)), (5, zi (l2 : Int)), (6, zi ((t : Int) - 1))], [], m) κ := by
    intro t
    induction t with
    | zero =>
      intro c w2 l2 ht hl2 hm hfin
      have hw2 := b_mk_le 0 w2 _ hm
      rw [b_pick, Nat.add_zero] at hfin
      rw [hfin]
      exact zb13_16 hT rfl hB (by omega) (by omega) (by omega) (by omega) (fun _ => hk) (fun q => by omega) (fun q => by omega) (fun q => by omega)
    | succ t ih =>
      intro c w2 l2 ht hl2 hm hfin
      have hw2 := b_mk_le (t + 1) w2 _ hm
      have ft : f t = m 26 t := by
        rw [hf]
        exact if_pos (by omega)
      have wl := b_w_lt (f := f) t l2
      have p21 : 2 ^ (t + 1) ≤ 2 ^ 20 := Nat.pow_le_pow_right (by omega) (by omega)
      have e2 : 2 ^ (t + 1) * c = 2 ^ t * (2 * c) := by rw [Nat.pow_succ, Nat.mul_assoc]
      have ei : ((((t + 1 : Nat) : Int) - 1) * 1107 + (l2 : Int)).toNat = t * 1107 + l2 := by omega
      have ei2 : (((t + 1 : Nat) : Int) - 1).toNat = t := by omega
      have et1 : ((t + 1 : Nat) : Int) - 1 = (t : Int) := by omega
      have hbit : z_and (z_shr (m 27 (t * 1107 + l2)) (w2 : Int)) 1 = if b_mk f t w2 l2 = true then 1 else 0 := by
        rw [hw t l2 (by omega) hl2, z_bit (by omega) (by omega), b_w_bit hf0]
      have hc : 2 ^ (t + 1) * c ≤ 2 ^ 20 := by omega
      refine zb13_16 hT rfl hB (by omega) (by omega) (by omega) (by omega) (fun q => by omega) (fun _ q => ?_) (fun _ q q2 => ?_) (fun _ q q2 => ?_)
      · rw [ei, hbit] at q
        have hm2 : b_mk f t w2 l2 = true := by
          by_cases x : b_mk f t w2 l2 = true
          · exact x
          · rw [if_neg x] at q
            exact absurd rfl q
        rw [b_pick, if_pos hm2] at hfin
        have := ih (2 * c) w2 l2 (by omega) hl2 hm2 (by rw [← e2]; exact hfin)
        rw [← e2] at this
        rw [show ((t + 1 : Nat) : Int) - 1 + -1 = (t : Int) - 1 by omega]
        exact this
      · rw [ei, hbit] at q
        rw [ei2, ← ft] at q2
        exfalso
        rcases b_mk_or hm with x | ⟨j', rfl, x⟩
        · rw [if_pos x] at q
          exact absurd q (by decide)
        · have := b_mk_tot hf0 t j' _ x
          omega
      · rw [ei, hbit] at q
        rw [ei2, ← ft] at q2
        rw [ei2, ← ft]
        have hm2 : ¬ b_mk f t w2 l2 = true := fun x => by
          rw [if_pos x] at q
          exact absurd q (by decide)
        rcases b_mk_or hm with x | ⟨j', rfl, x⟩
        · exact absurd x hm2
        · have bt := b_mk_tot hf0 t j' _ x
          have bf := hf0 t
          obtain ⟨l3, hl3⟩ : ∃ l3 : Nat, (l2 : Int) - f t = (l3 : Int) := ⟨((l2 : Int) - f t).toNat, by omega⟩
          rw [hl3] at x ⊢
          rw [b_pick, if_neg hm2, Nat.add_sub_cancel, hl3] at hfin
          have pt : 2 ^ t < 2 ^ (t + 1) := Nat.pow_lt_pow_right (by omega) (by omega)
          have eo : z_or ((2 ^ (t + 1) * c : Nat) : Int) (z_shl 1 (((t + 1 : Nat) : Int) - 1)) = ((2 ^ t * (2 * c + 1) : Nat) : Int) := by
            rw [et1, z_shl1T t (by omega), z_orN (by omega) (by omega), ← Nat.two_pow_add_eq_or_of_lt pt c, e2, Nat.mul_add, Nat.mul_one]
          have := ih (2 * c + 1) j' l3 (by omega) (by omega) x (by rw [Nat.mul_add, Nat.mul_one, ← e2]; omega)
          rw [eo, show ((j' + 1 : Nat) : Int) + -1 = (j' : Int) by omega, show ((t + 1 : Nat) : Int) - 1 + -1 = (t : Int) - 1 by omega]
          exact this
  have hw20 := b_mk_le n w _ hmk
  refine zb13_0 hT hB (by omega) (by omega) ?_
  rw [hn]
  have := loop n 0 w l (Nat.le_refl n) hl hmk (by rw [Nat.mul_zero, Nat.zero_add])
  rw [Nat.mul_zero] at this
  exact this
end ZChoose
/-- among the sums from v on up to e are the fewest -/
theorem b_near {f : Nat → Int} {n : Nat} {v : Int} (hf : ∀ q, 0 ≤ f q ∧ f q ≤ 108) (hv : 1 ≤ v) : ∀ j s, v ≤ s → b_mk f n j s = true → ∃ j3 s3, v ≤ s3 ∧ s3 ≤ v + 107 ∧ b_mk f n j3 s3 = true ∧ (j3 < j ∨ (j3 = j ∧ s3 = s))
  | 0, s, h1, h2 => by
    rw [b_mk_0] at h2
    have := of_decide_eq_true h2
    omega
  | j + 1, s, h1, h2 => by
    by_cases e : s ≤ v + 107
    · exact ⟨j + 1, s, h1, e, h2, Or.inr ⟨rfl, rfl⟩⟩
    · obtain ⟨q, q1, q2⟩ := b_mk_drop n j s h2
      have := hf q
      obtain ⟨j3, s3, g1, g2, g3, g4⟩ := b_near hf hv j (s - f q) (by omega) q2
      exact ⟨j3, s3, g1, g2, g3, Or.inl (by omega)⟩
section ZChoose2
variable {T : Nat → Nat → zG → (Option zA → zM → Prop) → Prop}
theorem z_choose (hT : zRules T) {D : Nat} {κ : Option zA → zM → Prop} {m : zM} {n v : Nat} {f : Nat → Int} (hB : zB m) (hn : m 25 2 = (n : Int)) (hv : v ≤ 999) (hv1 : 1 ≤ v) (hf : f = b_pf (m 26))
    (h0 : b_non f n v → κ (some (zi (-2))) m)
    (h1 : ∀ (w q : Nat) (M : zM), zB M → zFr (inL [(27, none), (25, some 3), (25, some 4)]) m M → b_few f n v w → (v ≤ q ∧ b_mk f n w q = true) → (∀ s : Int, (v : Int) ≤ s → b_mk f n w s = true → (q : Int) ≤ s) → M 25 4 = (q : Int) → M 25 3 = (b_pick f n w q : Int) → κ (some (zi (w : Int))) M) : T (D + 3) 11 (0, [(0, zr 25), (1, zi (v : Int))], [], m) κ := by
  have b25 : 0 ≤ m 25 2 ∧ m 25 2 ≤ 20 := hB 25 2
  have hp : ∀ q, 0 ≤ m 26 q ∧ m 26 q ≤ 108 := fun q => hB 26 q
  have hf0 : ∀ q, 0 ≤ f q ∧ f q ≤ 108 := fun q => by
    rw [hf]
    unfold b_pf
    have := hp q
    split <;> omega
  have hfn : ∀ q, q < n → f q = m 26 q := fun q hq => by
    rw [hf]
    exact if_pos (by omega)
  have etot : bsum (m 26) 0 n = b_tot f n := by
    rw [← bsum_b_tot]
    exact bsum_congr n 0 (fun x _ hx => (hfn x (by omega)).symm)
  have btot : 0 ≤ b_tot f n ∧ b_tot f n ≤ 108 * n := by
    rw [← etot]
    exact bsum_B (fun x _ => hp x) n 0 (by omega)
  have ball := b_mk_all (f := f) n
  refine zb11_0 hT hB hv ?_
  refine z_sumC (D := D + 1) hT hB hn ?_
  rw [etot]
  obtain ⟨t, ht⟩ : ∃ t : Nat, b_tot f n = (t : Int) := ⟨(b_tot f n).toNat, by omega⟩
  rw [ht]
  have rest : ∀ e : Nat, e ≤ 1106 → ¬ (t : Int) < (v : Int) → ((e : Int) = v + 107 ∨ (e : Int) = t) → e ≤ v + 107 → e ≤ t → T (D + 2) 12 (0, [(0, zr 25), (1, zi (e : Int))], [], m) (fun r m1 => T (D + 3) 11 (29, [(0, zr 25), (1, zi (v : Int)), (2, zi (t : Int)), (3, zi (e : Int))], r.toList ++ [], m1) κ) := by
    intro e he hvt hee he1 he2
    refine z_reach (D := D + 1) (n := n) (f := f) hT hB hn he hf (fun M0 hB0 hF0 hw => ?_)
    have near : ∀ j s, (v : Int) ≤ s → b_mk f n j s = true → ∃ j3 s3, (v : Int) ≤ s3 ∧ s3 ≤ (e : Int) ∧ b_mk f n j3 s3 = true ∧ (j3 < j ∨ (j3 = j ∧ s3 = s)) := by
      intro j s g1 g2
      obtain ⟨j3, s3, k1, k2, k3, k4⟩ := b_near (v := v) hf0 (by omega) j s g1 g2
      have := b_mk_tot (fun q => (hf0 q).1) n j3 s3 k3
      exact ⟨j3, s3, k1, by omega, k3, k4⟩
    refine zb11_29 hT rfl hB0 hv he ?_
    have loop : ∀ (d s a : Nat) (M : zM), s + d = e + 1 → v ≤ s → a ≤ 2 ^ 20 → zB M → zFr (inL [(25, some 4)]) M0 M →
        ((a = 0 ∧ ∀ x : Nat, v ≤ x → x < s → ∀ j, b_mk f n j x = false) ∨ ∃ j q : Nat, a = 2 ^ j ∧ j ≤ n ∧ M 25 4 = (q : Int) ∧ v ≤ q ∧ q < s ∧ b_mk f n j q = true ∧ ∀ x : Nat, v ≤ x → x < s → ∀ j', b_mk f n j' x = true → j < j' ∨ (j = j' ∧ q ≤ x)) →
        T (D + 3) 11 (35, [(0, zr 25), (3, zi (e : Int)), (4, zi (a : Int)), (5, zi (s : Int))], [], M) κ := by
      intro d
      induction d with
      | zero =>
        intro s a M hs hvs ha hBM hF hI
        refine zb11_35 hT rfl hBM he (by omega) (by omega) (fun _ => ?_) (fun q => by omega) (fun q => by omega) (fun q => by omega) (fun q => by omega)
        rcases hI with ⟨_, g⟩ | ⟨j, q, rfl, g1, g2, g3, g4, g5, g6⟩
        · exfalso
          obtain ⟨j3, s3, k1, k2, k3, -⟩ := near n (b_tot f n) (by omega) ball
          have := g s3.toNat (by omega) (by omega) j3
          rw [show ((s3.toNat : Nat) : Int) = s3 by omega, k3] at this
          cases this
        · have far : ∀ j' x, (v : Int) ≤ x → b_mk f n j' x = true → j < j' ∨ (j = j' ∧ (q : Int) ≤ x) := by
            intro j' x x1 x2
            obtain ⟨j3, s3, k1, k2, k3, k4⟩ := near j' x x1 x2
            have := g6 s3.toNat (by omega) (by omega) j3 (by rw [show ((s3.toNat : Nat) : Int) = s3 by omega]; exact k3)
            omega
          have e25 : M 25 2 = (n : Int) := (hF 25 2 rfl).trans ((hF0 25 2 rfl).trans hn)
          have hj1 : 1 ≤ j := by
            rcases Nat.eq_zero_or_pos j with h | h
            · subst h
              rw [b_mk_0] at g5
              have := of_decide_eq_true g5
              omega
            · exact h
          refine z_bcnt (D := D + 1) hT (by omega) ?_
          refine zb11_107 hT rfl hBM (by omega) ?_
          rw [g2]
          refine z_leastB (D := D + 1) (n := n) (e := e) (f := f) hT hBM e25 he (by rw [hf, show M 26 = m 26 from funext fun x => (hF 26 x rfl).trans (hF0 26 x rfl)]) (fun i s h1 h2 => by rw [hF 27 _ rfl]; exact hw i s h1 h2) (by omega) g5 ?_
          have pl := b_pick_lt (f := f) n j q
          have pn : 2 ^ n ≤ 2 ^ 20 := Nat.pow_le_pow_right (by omega) (by omega)
          refine zb11_120 hT rfl hBM (by omega) (by omega) (fun hz => ?_)
          refine h1 j q _ hz (((hF0.sub (inL_sub (by decide))).trans (hF.sub (inL_sub (by decide)))).set rfl) ⟨⟨hj1, g1⟩, ⟨q, by omega, g5⟩, fun j' x x1 x2 => ?_⟩ ⟨g3, g5⟩ (fun x x1 x2 => ?_) (by rw [zu_off (by omega), g2]) (by rw [zu_sm rfl])
          · rcases Int.lt_or_le x v with h | h
            · exact h
            · have := far j' x h x2
              omega
          · have := far j x x1 x2
            omega
      | succ d ih =>
        intro s a M hs hvs ha hBM hF hI
        have e25 : M 25 2 = (n : Int) := (hF 25 2 rfl).trans ((hF0 25 2 rfl).trans hn)
        have ei : (M 25 2 * 1107 + (s : Int)).toNat = n * 1107 + s := by omega
        have e27 : M 27 (n * 1107 + s) = (b_w f n s : Int) := (hF 27 _ rfl).trans (hw n s (Nat.le_refl n) (by omega))
        have wl := b_w_lt (f := f) n s
        have p21 : 2 ^ (n + 1) ≤ 2 ^ 21 := Nat.pow_le_pow_right (by omega) (by omega)
        have hbit : ∀ j, (b_w f n s).testBit j = b_mk f n j s := fun j => b_w_bit (fun q => (hf0 q).1) n s j
        have nx := fun a2 M2 => ih (s + 1) a2 M2 (by omega) (by omega)
        by_cases w0 : b_w f n s = 0
        · have none0 : ∀ j, b_mk f n j s = false := fun j => by rw [← hbit, w0, Nat.zero_testBit]
          have el : z_and (M 27 (n * 1107 + s)) (-(M 27 (n * 1107 + s))) = 0 := by
            rw [e27, w0]
            decide +kernel
          refine zb11_35 hT rfl hBM he (by omega) (by omega) (fun q => by omega) (fun _ _ => ?_) (fun _ q => absurd (by rw [ei]; exact el) q) (fun _ q => absurd (by rw [ei]; exact el) q) (fun _ q => absurd (by rw [ei]; exact el) q)
          refine nx a M ha hBM hF ?_
          rcases hI with ⟨g0, g⟩ | ⟨j, q, g0, g1, g2, g3, g4, g5, g6⟩
          · refine Or.inl ⟨g0, fun x x1 x2 j => ?_⟩
            by_cases ex : x = s
            · rw [ex]
              exact none0 j
            · exact g x x1 (by omega) j
          · refine Or.inr ⟨j, q, g0, g1, g2, g3, by omega, g5, fun x x1 x2 j' hj' => ?_⟩
            by_cases ex : x = s
            · rw [ex, none0] at hj'
              cases hj'
            · exact g6 x x1 (by omega) j' hj'
        · obtain ⟨k, h, hk⟩ := b_odd (b_w f n s) (by omega)
          have q1 : 1 ≤ 2 ^ k := Nat.one_le_two_pow
          have q2 : 2 ^ k * 1 ≤ 2 ^ k * (2 * h + 1) := Nat.mul_le_mul_left _ (by omega)
          have el : z_and (M 27 (n * 1107 + s)) (-(M 27 (n * 1107 + s))) = ((2 ^ k : Nat) : Int) := by
            rw [e27, hk]
            exact z_lowbit (by omega)
          have bk : b_mk f n k s = true := by
            rw [← hbit, hk, b_wbit, if_neg (by omega), Nat.sub_self]
            exact (b_2h0 h).1
          have lk : ∀ j, b_mk f n j s = true → k ≤ j := fun j hj => by
            rcases Nat.lt_or_ge j k with x | x
            · rw [← hbit, hk, b_wbit, if_pos x] at hj
              cases hj
            · exact x
          have kn := b_mk_le n k _ bk
          have pk : 2 ^ k ≤ 2 ^ 20 := Nat.pow_le_pow_right (by omega) (by omega)
          have el2 : z_and (M 27 ((M 25 2 * 1107 + (s : Int)).toNat)) (-(M 27 ((M 25 2 * 1107 + (s : Int)).toNat))) = ((2 ^ k : Nat) : Int) := by rw [ei]; exact el
          refine zb11_35 hT rfl hBM he (by omega) (by omega) (fun q => by omega) (fun _ q => by omega) (fun _ _ q hz => ?_) (fun _ _ q q3 => ?_) (fun _ _ q q3 hz => ?_)
          · rw [el2]
            refine nx (2 ^ k) _ pk hz (hF.set rfl) (Or.inr ⟨k, s, rfl, kn, by rw [zu_sm rfl], hvs, by omega, bk, fun x x1 x2 j' hj' => ?_⟩)
            by_cases ex : x = s
            · rw [ex] at hj' ⊢
              have := lk j' hj'
              omega
            · rcases hI with ⟨g0, g⟩ | ⟨j, q, g0, g1, g2, g3, g4, g5, g6⟩
              · rw [g x x1 (by omega) j'] at hj'
                cases hj'
              · have : 1 ≤ 2 ^ j := Nat.one_le_two_pow
                omega
          · refine nx a M ha hBM hF ?_
            rcases hI with ⟨g0, g⟩ | ⟨j, q, g0, g1, g2, g3, g4, g5, g6⟩
            · omega
            · rw [el2, g0] at q3
              have hjk : j ≤ k := (Nat.pow_le_pow_iff_right (a := 2) (by omega)).mp (by omega)
              refine Or.inr ⟨j, q, g0, g1, g2, g3, by omega, g5, fun x x1 x2 j' hj' => ?_⟩
              by_cases ex : x = s
              · rw [ex] at hj' ⊢
                have := lk j' hj'
                omega
              · exact g6 x x1 (by omega) j' hj'
          · rw [el2] at q3 ⊢
            rcases hI with ⟨g0, g⟩ | ⟨j, q, g0, g1, g2, g3, g4, g5, g6⟩
            · omega
            · rw [g0] at q3
              have hkj : k < j := (Nat.pow_lt_pow_iff_right (a := 2) (by omega)).mp (by omega)
              refine nx (2 ^ k) _ pk hz (hF.set rfl) (Or.inr ⟨k, s, rfl, kn, by rw [zu_sm rfl], hvs, by omega, bk, fun x x1 x2 j' hj' => ?_⟩)
              by_cases ex : x = s
              · rw [ex] at hj' ⊢
                have := lk j' hj'
                omega
              · have := g6 x x1 (by omega) j' hj'
                omega
    exact loop (e + 1 - v) v 0 M0 (by omega) (by omega) (by omega) hB0 zFr.refl (Or.inl ⟨rfl, fun x x1 x2 => by omega⟩)
  refine zb11_4 hT rfl hB hv (by omega) (fun q1 q2 => ?_) (fun q1 q2 => ?_) (fun q => h0 (fun j s hs => ?_))
  · have := rest (v + 107) (by omega) q1 (Or.inl (by omega)) (by omega) (by omega)
    rw [show (v : Int) + 108 - 1 = ((v + 107 : Nat) : Int) by omega]
    exact this
  · exact rest t (by omega) q1 (Or.inr rfl) (by omega) (by omega)
  · have := b_mk_tot (fun q => (hf0 q).1) n j s hs
    omega
end ZChoose2
/-- both mean the same set -/
theorem b_agree {f g : Nat → Int} {n v w w' q P : Nat} (hfg : ∀ i, i < n → f i = g i) (h1 : b_few f n v w) (h2 : b_few g n v w') (hq : v ≤ q ∧ b_mk f n w q = true) (hl : ∀ s : Int, (v : Int) ≤ s → b_mk f n w s = true → (q : Int) ≤ s) (hP : b_best g n v w' P) : w = w' ∧ b_pick f n w q = P ∧ b_sum g n P = (q : Int) := by
  have em : ∀ j s, b_mk g n j s = b_mk f n j s := fun j s => (b_mk_fcongr n j s hfg).symm
  have ew : w = w' := by
    obtain ⟨a1, ⟨s1, a2, a3⟩, a4⟩ := h1
    obtain ⟨c1, ⟨s2, c2, c3⟩, c4⟩ := h2
    rcases Nat.lt_trichotomy w w' with x | x | x
    · have := c4 w s1 x (by rw [em]; exact a3)
      omega
    · exact x
    · have := a4 w' s2 x (by rw [← em]; exact c3)
      omega
  subst ew
  have es : ∀ y, b_sum g n y = b_sum f n y := fun y => (b_sum_fcongr n hfg).symm
  obtain ⟨⟨p1, p2⟩, p3, p4⟩ := hP
  obtain ⟨o1, o2⟩ := b_pick_ok n w q hq.2
  have ol := b_pick_lt (f := f) n w q
  have hm := b_mk_set (f := f) (x := P) n
  rw [p2] at hm
  have c1 := hl (b_sum f n P) (by rw [← es]; exact p3) hm
  have c2 := p4 _ ol o1 (by rw [es, o2]; omega)
  rw [es, es, o2] at c2
  have e : b_sum f n P = (q : Int) := by omega
  refine ⟨rfl, ?_, by rw [es]; exact e⟩
  have c3 := b_pick_le (f := f) n P p1
  rw [p2, e] at c3
  omega
theorem b_agree0 {f g : Nat → Int} {n v w : Nat} (hfg : ∀ i, i < n → f i = g i) (h1 : b_non f n v) (h2 : b_few g n v w) : False := by
  obtain ⟨_, ⟨s, a, b⟩, _⟩ := h2
  have := h1 w s (by rw [b_mk_fcongr n w s hfg]; exact b)
  omega
