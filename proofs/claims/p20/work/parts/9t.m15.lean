-- 9t.choose.lean.txt
section
/-! The fewest pieces, and the least set of those that sum to the least: by the class. -/
/-- as bits: how many of the first i can sum to s -/
noncomputable def b_w (f : Nat → Int) : Nat → Int → Nat
  | 0, s => if s = 0 then 1 else 0
  | i + 1, s => if s < f i then b_w f i s else b_w f i s ||| 2 * b_w f i (s - f i)
theorem b_w_lt {f : Nat → Int} : ∀ i s, b_w f i s < 2 ^ (i + 1)
  | 0, s => by
    rw [b_w]
    split <;> decide
  | i + 1, s => by
    have h1 := b_w_lt (f := f) i s
    have h2 := b_w_lt (f := f) i (s - f i)
    have h3 : 2 ^ (i + 1 + 1) = 2 ^ (i + 1) + 2 ^ (i + 1) := by rw [Nat.pow_succ (n := 2) (m := i + 1)]; omega
    rw [b_w]
    split
    · omega
    · exact Nat.or_lt_two_pow (by omega) (by omega)
theorem b_dbl (w : Nat) : (2 * w).testBit 0 = false ∧ ∀ j, (2 * w).testBit (j + 1) = w.testBit j := ⟨(b_2h0 w).2, fun j => (b_2h1 w j).2⟩
theorem b_w_bit {f : Nat → Int} (hf : ∀ q, 0 ≤ f q) : ∀ i s j, (b_w f i s).testBit j = b_mk f i j s
  | 0, s, j => by
    rw [b_w, b_mk]
    by_cases e : s = 0
    · rw [if_pos e, decide_eq_true e, Bool.and_true]
      cases j with
      | zero => rfl
      | succ j =>
        rw [Nat.testBit_succ, decide_eq_false (by omega)]
        exact Nat.zero_testBit j
    · rw [if_neg e, decide_eq_false e, Bool.and_false, Nat.zero_testBit]
  | i + 1, s, j => by
    rw [b_w]
    by_cases e : s < f i
    · rw [if_pos e, b_w_bit hf i s j]
      cases j with
      | zero => rw [b_mk]
      | succ j =>
        rw [b_mk]
        cases hm : b_mk f i j (s - f i) with
        | false => rw [Bool.or_false]
        | true =>
          have := b_mk_tot hf i j _ hm
          omega
    · rw [if_neg e, Nat.testBit_or, b_w_bit hf i s j]
      cases j with
      | zero => rw [(b_dbl _).1, Bool.or_false, b_mk]
      | succ j => rw [(b_dbl _).2, b_w_bit hf i (s - f i) j, b_mk]
theorem z_shl1N {w : Nat} (hw : w < 1073741824) : z_shl (w : Int) 1 = ((2 * w : Nat) : Int) := by
  unfold z_shl
  have e0 : (Int32.ofInt 1 &&& 31) = (1 : Int32) := by decide +kernel
  rw [e0]
  have e1 : (Int32.ofInt (w : Int) <<< (1 : Int32)).toBitVec.toNat = 2 * w := by
    show ((Int32.ofInt (w : Int)).toBitVec <<< ((1 : Int32).toBitVec.smod 32)).toNat = _
    have e2 : ((1 : Int32).toBitVec.smod 32) = 1#32 := by decide +kernel
    rw [e2]
    show ((Int32.ofInt (w : Int)).toBitVec <<< (1#32).toNat).toNat = _
    rw [BitVec.toNat_shiftLeft, zn_nat (by omega), Nat.shiftLeft_eq, show (1#32).toNat = 1 from rfl]
    omega
  have e2 := s_ofnat (z := (Int32.ofInt (w : Int) <<< (1 : Int32))) (by omega)
  omega
theorem bsum_tot {f : Nat → Int} : ∀ (j i : Nat), bsum f i (j + 1) = bsum f i j + f (i + j)
  | 0, i => by
    rw [bsum, bsum, bsum, Nat.add_zero]
    omega
  | j + 1, i => by
    have h := bsum_tot (f := f) j (i + 1)
    have e1 : bsum f i (j + 1) = f i + bsum f (i + 1) j := rfl
    rw [bsum, h, e1, show i + 1 + j = i + (j + 1) by omega]
    omega
theorem bsum_b_tot {f : Nat → Int} : ∀ n, bsum f 0 n = b_tot f n
  | 0 => rfl
  | n + 1 => by rw [bsum_tot n 0, bsum_b_tot n, b_tot, Nat.zero_add]
/-- the pieces, none behind the twentieth -/
noncomputable def b_pf (f : Nat → Int) : Nat → Int := fun q => if q < 20 then f q else 0
section ZChoose
variable {T : Nat → Nat → zG → (Option zA → zM → Prop) → Prop}
theorem z_bcnt (hT : zRules T) {D : Nat} {κ : Option zA → zM → Prop} {m : zM} {j : Nat} (hj : j ≤ 20) (h : κ (some (zi (j : Int))) m) : T (D + 1) 293 (0, [(0, zi (((2 ^ j : Nat) : Int) - 1))], [], m) κ := by
  have p1 : 1 ≤ 2 ^ j := Nat.one_le_two_pow
  have p2 : 2 ^ j ≤ 2 ^ 20 := Nat.pow_le_pow_right (by omega) hj
  refine zb293_0 hT (by omega) (k_eq h ?_)
  clear p1 p2 h
  revert j
  decide +kernel
/-- the rows of sums -/
theorem z_reach (hT : zRules T) {D : Nat} {κ : Option zA → zM → Prop} {m : zM} {n e : Nat} {f : Nat → Int} (hB : zB m) (hn : m 25 2 = (n : Int)) (he : e ≤ 1106) (hf : f = b_pf (m 26))
    (hk : ∀ M, zB M → zFr (inL [(27, none)]) m M → (∀ i s : Nat, i ≤ n → s ≤ e → M 27 (i * 1107 + s) = (b_w f i s : Int)) → κ none M) : T (D + 1) 12 (0, [(0, zr 25), (1, zi (e : Int))], [], m) κ := by
  have b25 : 0 ≤ m 25 2 ∧ m 25 2 ≤ 20 := hB 25 2
  have hp : ∀ q, 0 ≤ m 26 q ∧ m 26 q ≤ 108 := fun q => hB 26 q
  have second : ∀ (j i : Nat) (M : zM), i + j = n → zB M → zFr (inL [(27, none)]) m M → (∀ a s : Nat, a ≤ i → s ≤ e → M 27 (a * 1107 + s) = (b_w f a s : Int)) → T (D + 1) 12 (30, [(0, zr 25), (1, zi (e : Int)), (2, zi (i : Int))], [], M) κ := by
    intro j
    induction j with
    | zero =>
      intro i M hi hBM hF hx
      have e25 : M 25 2 = (n : Int) := (hF 25 2 rfl).trans hn
      exact zb12_30 hT rfl hBM he (by omega) (fun _ => hk M hBM hF (fun a s h1 h2 => hx a s (by omega) h2)) (fun q => by omega)
    | succ j ih =>
      intro i M hi hBM hF hx
      have e25 : M 25 2 = (n : Int) := (hF 25 2 rfl).trans hn
      refine zb12_30 hT rfl hBM he (by omega) (fun q => by omega) (fun _ => ?_)
      rw [show (i : Int) * 1107 = ((i * 1107 : Nat) : Int) by omega]
      have fi : f i = m 26 i := by
        rw [hf]
        exact if_pos (by omega)
      have inner : ∀ (d s : Nat) (M2 : zM), s + d = e + 1 → zB M2 → zFr (inL [(27, none)]) m M2 → (∀ a s : Nat, a ≤ i → s ≤ e → M2 27 (a * 1107 + s) = (b_w f a s : Int)) → (∀ t : Nat, t < s → M2 27 ((i + 1) * 1107 + t) = (b_w f (i + 1) t : Int)) → T (D + 1) 12 (47, [(0, zr 25), (1, zi (e : Int)), (2, zi (i : Int)), (3, zi ((i * 1107 : Nat) : Int)), (4, zi (s : Int))], [], M2) κ := by
        intro d
        induction d with
        | zero =>
          intro s M2 hs hB2 hF2 g1 g2
          refine zb12_47 hT rfl hB2 he (by omega) (by omega) (by omega) (fun _ => ?_) (fun q => by omega) (fun q => by omega)
          refine ih (i + 1) M2 (by omega) hB2 hF2 (fun a t h1 h2 => ?_)
          by_cases ea : a = i + 1
          · rw [ea]
            exact g2 t (by omega)
          · exact g1 a t (by omega) h2
        | succ d ih2 =>
          intro s M2 hs hB2 hF2 g1 g2
          have e26 : M2 26 i = f i := (hF2 26 i rfl).trans fi.symm
          have g0 := g1 i s (Nat.le_refl i) (by omega)
          have wl1 := b_w_lt (f := f) i s
          have wl2 := b_w_lt (f := f) i ((s : Int) - f i)
          have p21 : 2 ^ (i + 1) ≤ 2 ^ 20 := Nat.pow_le_pow_right (by omega) (by omega)
          have go : ∀ (V : Int) (hz : zB (zu M2 27 (i * 1107 + s + 1107) V)), V = (b_w f (i + 1) s : Int) → T (D + 1) 12 (47, [(0, zr 25), (1, zi (e : Int)), (2, zi (i : Int)), (3, zi ((i * 1107 : Nat) : Int)), (4, zi ((s : Int) + 1))], [], zu M2 27 (i * 1107 + s + 1107) V) κ := by
            intro V hz hV
            refine ih2 (s + 1) _ (by omega) hz (hF2.set rfl) (fun a t h1 h2 => ?_) (fun t ht => ?_)
            · rw [zu_off (by omega), g1 a t h1 h2]
            · by_cases et : t = s
              · rw [et, zu_sm (by omega), hV]
              · rw [zu_off (by omega), g2 t (by omega)]
          refine zb12_47 hT rfl hB2 he (by omega) (by omega) (by omega) (fun q => by omega) (fun _ q hz => go _ hz ?_) (fun _ q hz => go _ hz ?_)
          · rw [e26] at q
            rw [g0, b_w, if_pos q]
          · rw [e26] at q ⊢
            have bf := hp i
            rw [← fi] at bf
            obtain ⟨c, hc⟩ : ∃ c : Nat, (s : Int) - f i = (c : Int) := ⟨((s : Int) - f i).toNat, by omega⟩
            have ei : (((i * 1107 : Nat) : Int) + (s : Int) - f i).toNat = i * 1107 + c := by omega
            rw [hc] at wl2
            rw [ei, g0, g1 i c (Nat.le_refl i) (by omega), z_shl1N (by omega), z_orN (by omega) (by omega), b_w, if_neg q, hc]
      refine inner (e + 1) 0 M (by omega) hBM hF (fun a s h1 h2 => hx a s (by omega) h2) (fun t ht => by omega)
  have first : ∀ (d s : Nat) (M : zM), s + d = e + 1 → zB M → zFr (inL [(27, none)]) m M → (∀ t : Nat, t < s → M 27 t = (b_w f 0 t : Int)) → T (D + 1) 12 (2, [(0, zr 25), (1, zi (e : Int)), (2, zi (s : Int))], [], M) κ := by
    intro d
    induction d with
    | zero =>
      intro s M hs hBM hF g
      refine zb12_2 hT rfl hBM he (by omega) (fun _ => ?_) (fun q => by omega) (fun q => by omega)
      refine second n 0 M (by omega) hBM hF (fun a t h1 h2 => ?_)
      have : a = 0 := by omega
      subst this
      rw [Nat.zero_mul, Nat.zero_add]
      exact g t (by omega)
    | succ d ih =>
      intro s M hs hBM hF g
      refine zb12_2 hT rfl hBM he (by omega) (fun q => by omega) (fun _ q hz => ?_) (fun _ q hz => ?_)
      · refine ih (s + 1) _ (by omega) hz (hF.set rfl) (fun t ht => ?_)
        by_cases et : t = s
        · rw [et, zu_sm rfl, b_w, if_neg (by omega)]
          rfl
        · rw [zu_off (by omega), g t (by omega)]
      · refine ih (s + 1) _ (by omega) hz (hF.set rfl) (fun t ht => ?_)
        by_cases et : t = s
        · rw [et, zu_sm rfl, b_w, if_pos (by omega)]
          rfl
        · rw [zu_off (by omega), g t (by omega)]
  exact zb12_0 hT hB he (first (e + 1) 0 m (by omega) hB zFr.refl (fun t ht => by omega))
/-- the least set of w that sum to l -/
theorem z_leastB (hT : zRules T) {D : Nat} {κ : Option zA → zM → Prop} {m : zM} {n e w l : Nat} {f : Nat → Int} (hB : zB m) (hn : m 25 2 = (n : Int)) (he : e ≤ 1106) (hf : f = b_pf (m 26)) (hw : ∀ i s : Nat, i ≤ n → s ≤ e → m 27 (i * 1107 + s) = (b_w f i s : Int)) (hl : l ≤ e) (hmk : b_mk f n w l = true) (hk : κ (some (zi (b_pick f n w l : Int))) m) : T (D + 1) 13 (0, [(0, zr 25), (1, zi (w : Int)), (2, zi (l : Int))], [], m) κ := by
  have b25 : 0 ≤ m 25 2 ∧ m 25 2 ≤ 20 := hB 25 2
  have hp : ∀ q, 0 ≤ m 26 q ∧ m 26 q ≤ 108 := fun q => hB 26 q
  have hf0 : ∀ q, 0 ≤ f q := fun q => by
    rw [hf]
    unfold b_pf
    have := hp q
    split <;> omega
  have fl := b_pick_lt (f := f) n w l
  have pn : 2 ^ n ≤ 2 ^ 20 := Nat.pow_le_pow_right (by omega) (by omega)
  have loop : ∀ (t c w2 l2 : Nat), t ≤ n → l2 ≤ e → b_mk f t w2 l2 = true → 2 ^ t * c + b_pick f t w2 l2 = b_pick f n w l → T (D + 1) 13 (16, [(0, zr 25), (3, zi ((2 ^ t * c : Nat) : Int)), (4, zi (w2 : Int)), (5, zi (l2 : Int)), (6, zi ((t : Int) - 1))], [], m) κ := by
    intro t
    induction t with
    | zero =>
      intro c w2 l2 ht hl2 hm hfin
      have hw2 := b_mk_le 0 w2 _ hm
      rw [b_pick, Nat.add_zero] at hfin
      rw [hfin]
      exact zb13_16 hT rfl hB (by omega) (by omega) (by omega) (by omega) (fun _ => hk) (fun q => by omega) (fun q => by omega) (fun q => by omega)
    | succ t ih =>
      intro c w2 l2 ht hl2 hm hfin
      have hw2 := b_mk_le (t + 1) w2 _ hm
      have ft : f t = m 26 t := by
        rw [hf]
        exact if_pos (by omega)
      have wl := b_w_lt (f := f) t l2
      have p21 : 2 ^ (t + 1) ≤ 2 ^ 20 := Nat.pow_le_pow_right (by omega) (by omega)
      have e2 : 2 ^ (t + 1) * c = 2 ^ t * (2 * c) := by rw [Nat.pow_succ, Nat.mul_assoc]
      have ei : ((((t + 1 : Nat) : Int) - 1) * 1107 + (l2 : Int)).toNat = t * 1107 + l2 := by omega
      have ei2 : (((t + 1 : Nat) : Int) - 1).toNat = t := by omega
      have et1 : ((t + 1 : Nat) : Int) - 1 = (t : Int) := by omega
      have hbit : z_and (z_shr (m 27 (t * 1107 + l2)) (w2 : Int)) 1 = if b_mk f t w2 l2 = true then 1 else 0 := by
        rw [hw t l2 (by omega) hl2, z_bit (by omega) (by omega), b_w_bit hf0]
      have hc : 2 ^ (t + 1) * c ≤ 2 ^ 20 := by omega
      refine zb13_16 hT rfl hB (by omega) (by omega) (by omega) (by omega) (fun q => by omega) (fun _ q => ?_) (fun _ q q2 => ?_) (fun _ q q2 => ?_)
      · rw [ei, hbit] at q
        have hm2 : b_mk f t w2 l2 = true := by
          by_cases x : b_mk f t w2 l2 = true
          · exact x
          · rw [if_neg x] at q
            exact absurd rfl q
        rw [b_pick, if_pos hm2] at hfin
        have := ih (2 * c) w2 l2 (by omega) hl2 hm2 (by rw [← e2]; exact hfin)
        rw [← e2] at this
        rw [show ((t + 1 : Nat) : Int) - 1 + -1 = (t : Int) - 1 by omega]
        exact this
      · rw [ei, hbit] at q
        rw [ei2, ← ft] at q2
        exfalso
        rcases b_mk_or hm with x | ⟨j', rfl, x⟩
        · rw [if_pos x] at q
          exact absurd q (by decide)
        · have := b_mk_tot hf0 t j' _ x
          omega
      · rw [ei, hbit] at q
        rw [ei2, ← ft] at q2
        rw [ei2, ← ft]
        have hm2 : ¬ b_mk f t w2 l2 = true := fun x => by
          rw [if_pos x] at q
          exact absurd q (by decide)
        rcases b_mk_or hm with x | ⟨j', rfl, x⟩
        · exact absurd x hm2
        · have bt := b_mk_tot hf0 t j' _ x
          have bf := hf0 t
          obtain ⟨l3, hl3⟩ : ∃ l3 : Nat, (l2 : Int) - f t = (l3 : Int) := ⟨((l2 : Int) - f t).toNat, by omega⟩
          rw [hl3] at x ⊢
          rw [b_pick, if_neg hm2, Nat.add_sub_cancel, hl3] at hfin
          have pt : 2 ^ t < 2 ^ (t + 1) := Nat.pow_lt_pow_right (by omega) (by omega)
          have eo : z_or ((2 ^ (t + 1) * c : Nat) : Int) (z_shl 1 (((t + 1 : Nat) : Int) - 1)) = ((2 ^ t * (2 * c + 1) : Nat) : Int) := by
            rw [et1, z_shl1T t (by omega), z_orN (by omega) (by omega), ← Nat.two_pow_add_eq_or_of_lt pt c, e2, Nat.mul_add, Nat.mul_one]
          have := ih (2 * c + 1) j' l3 (by omega) (by omega) x (by rw [Nat.mul_add, Nat.mul_one, ← e2]; omega)
          rw [eo, show ((j' + 1 : Nat) : Int) + -1 = (j' : Int) by omega, show ((t + 1 : Nat) : Int) - 1 + -1 = (t : Int) - 1 by omega]
          exact this
  have hw20 := b_mk_le n w _ hmk
  refine zb13_0 hT hB (by omega) (by omega) ?_
  rw [hn]
  have := loop n 0 w l (Nat.le_refl n) hl hmk (by rw [Nat.mul_zero, Nat.zero_add])
  rw [Nat.mul_zero] at this
  exact this
end ZChoose
/-- among the sums from v on up to e are the fewest -/
theorem b_near {f : Nat → Int} {n : Nat} {v : Int} (hf : ∀ q, 0 ≤ f q ∧ f q ≤ 108) (hv : 1 ≤ v) : ∀ j s, v ≤ s → b_mk f n j s = true → ∃ j3 s3, v ≤ s3 ∧ s3 ≤ v + 107 ∧ b_mk f n j3 s3 = true ∧ (j3 < j ∨ (j3 = j ∧ s3 = s))
  | 0, s, h1, h2 => by
    rw [b_mk_0] at h2
    have := of_decide_eq_true h2
    omega
  | j + 1, s, h1, h2 => by
    by_cases e : s ≤ v + 107
    · exact ⟨j + 1, s, h1, e, h2, Or.inr ⟨rfl, rfl⟩⟩
    · obtain ⟨q, q1, q2⟩ := b_mk_drop n j s h2
      have := hf q
      obtain ⟨j3, s3, g1, g2, g3, g4⟩ := b_near hf hv j (s - f q) (by omega) q2
      exact ⟨j3, s3, g1, g2, g3, Or.inl (by omega)⟩
section ZChoose2
variable {T : Nat → Nat → zG → (Option zA → zM → Prop) → Prop}
theorem z_choose (hT : zRules T) {D : Nat} {κ : Option zA → zM → Prop} {m : zM} {n v : Nat} {f : Nat → Int} (hB : zB m) (hn : m 25 2 = (n : Int)) (hv : v ≤ 999) (hv1 : 1 ≤ v) (hf : f = b_pf (m 26))
    (h0 : b_non f n v → κ (some (zi (-2))) m)
    (h1 : ∀ (w q : Nat) (M : zM), zB M → zFr (inL [(27, none), (25, some 3), (25, some 4)]) m M → b_few f n v w → (v ≤ q ∧ b_mk f n w q = true) → (∀ s : Int, (v : Int) ≤ s → b_mk f n w s = true → (q : Int) ≤ s) → M 25 4 = (q : Int) → M 25 3 = (b_pick f n w q : Int) → κ (some (zi (w : Int))) M) : T (D + 3) 11 (0, [(0, zr 25), (1, zi (v : Int))], [], m) κ := by
  have b25 : 0 ≤ m 25 2 ∧ m 25 2 ≤ 20 := hB 25 2
  have hp : ∀ q, 0 ≤ m 26 q ∧ m 26 q ≤ 108 := fun q => hB 26 q
  have hf0 : ∀ q, 0 ≤ f q ∧ f q ≤ 108 := fun q => by
    rw [hf]
    unfold b_pf
    have := hp q
    split <;> omega
  have hfn : ∀ q, q < n → f q = m 26 q := fun q hq => by
    rw [hf]
    exact if_pos (by omega)
  have etot : bsum (m 26) 0 n = b_tot f n := by
    rw [← bsum_b_tot]
    exact bsum_congr n 0 (fun x _ hx => (hfn x (by omega)).symm)
  have btot : 0 ≤ b_tot f n ∧ b_tot f n ≤ 108 * n := by
    rw [← etot]
    exact bsum_B (fun x _ => hp x) n 0 (by omega)
  have ball := b_mk_all (f := f) n
  refine zb11_0 hT hB hv ?_
  refine z_sumC (D := D + 1) hT hB hn ?_
  rw [etot]
  obtain ⟨t, ht⟩ : ∃ t : Nat, b_tot f n = (t : Int) := ⟨(b_tot f n).toNat, by omega⟩
  rw [ht]
  have rest : ∀ e : Nat, e ≤ 1106 → ¬ (t : Int) < (v : Int) → ((e : Int) = v + 107 ∨ (e : Int) = t) → e ≤ v + 107 → e ≤ t → T (D + 2) 12 (0, [(0, zr 25), (1, zi (e : Int))], [], m) (fun r m1 => T (D + 3) 11 (29, [(0, zr 25), (1, zi (v : Int)), (2, zi (t : Int)), (3, zi (e : Int))], r.toList ++ [], m1) κ) := by
    intro e he hvt hee he1 he2
    refine z_reach (D := D + 1) (n := n) (f := f) hT hB hn he hf (fun M0 hB0 hF0 hw => ?_)
    have near : ∀ j s, (v : Int) ≤ s → b_mk f n j s = true → ∃ j3 s3, (v : Int) ≤ s3 ∧ s3 ≤ (e : Int) ∧ b_mk f n j3 s3 = true ∧ (j3 < j ∨ (j3 = j ∧ s3 = s)) := by
      intro j s g1 g2
      obtain ⟨j3, s3, k1, k2, k3, k4⟩ := b_near (v := v) hf0 (by omega) j s g1 g2
      have := b_mk_tot (fun q => (hf0 q).1) n j3 s3 k3
      exact ⟨j3, s3, k1, by omega, k3, k4⟩
    refine zb11_29 hT rfl hB0 hv he ?_
    have loop : ∀ (d s a : Nat) (M : zM), s + d = e + 1 → v ≤ s → a ≤ 2 ^ 20 → zB M → zFr (inL [(25, some 4)]) M0 M →
        ((a = 0 ∧ ∀ x : Nat, v ≤ x → x < s → ∀ j, b_mk f n j x = false) ∨ ∃ j q : Nat, a = 2 ^ j ∧ j ≤ n ∧ M 25 4 = (q : Int) ∧ v ≤ q ∧ q < s ∧ b_mk f n j q = true ∧ ∀ x : Nat, v ≤ x → x < s → ∀ j', b_mk f n j' x = true → j < j' ∨ (j = j' ∧ q ≤ x)) →
        T (D + 3) 11 (35, [(0, zr 25), (3, zi (e : Int)), (4, zi (a : Int)), (5, zi (s : Int))], [], M) κ := by
      intro d
      induction d with
      | zero =>
        intro s a M hs hvs ha hBM hF hI
        refine zb11_35 hT rfl hBM he (by omega) (by omega) (fun _ => ?_) (fun q => by omega) (fun q => by omega) (fun q => by omega) (fun q => by omega)
        rcases hI with ⟨_, g⟩ | ⟨j, q, rfl, g1, g2, g3, g4, g5, g6⟩
        · exfalso
          obtain ⟨j3, s3, k1, k2, k3, -⟩ := near n (b_tot f n) (by omega) ball
          have := g s3.toNat (by omega) (by omega) j3
          rw [show ((s3.toNat : Nat) : Int) = s3 by omega, k3] at this
          cases this
        · have far : ∀ j' x, (v : Int) ≤ x → b_mk f n j' x = true → j < j' ∨ (j = j' ∧ (q : Int) ≤ x) := by
            intro j' x x1 x2
            obtain ⟨j3, s3, k1, k2, k3, k4⟩ := near j' x x1 x2
            have := g6 s3.toNat (by omega) (by omega) j3 (by rw [show ((s3.toNat : Nat) : Int) = s3 by omega]; exact k3)
            omega
          have e25 : M 25 2 = (n : Int) := (hF 25 2 rfl).trans ((hF0 25 2 rfl).trans hn)
          have hj1 : 1 ≤ j := by
            rcases Nat.eq_zero_or_pos j with h | h
            · subst h
              rw [b_mk_0] at g5
              have := of_decide_eq_true g5
              omega
            · exact h
          refine z_bcnt (D := D + 1) hT (by omega) ?_
          refine zb11_107 hT rfl hBM (by omega) ?_
          rw [g2]
          refine z_leastB (D := D + 1) (n := n) (e := e) (f := f) hT hBM e25 he (by rw [hf, show M 26 = m 26 from funext fun x => (hF 26 x rfl).trans (hF0 26 x rfl)]) (fun i s h1 h2 => by rw [hF 27 _ rfl]; exact hw i s h1 h2) (by omega) g5 ?_
          have pl := b_pick_lt (f := f) n j q
          have pn : 2 ^ n ≤ 2 ^ 20 := Nat.pow_le_pow_right (by omega) (by omega)
          refine zb11_120 hT rfl hBM (by omega) (by omega) (fun hz => ?_)
          refine h1 j q _ hz (((hF0.sub (inL_sub (by decide))).trans (hF.sub (inL_sub (by decide)))).set rfl) ⟨⟨hj1, g1⟩, ⟨q, by omega, g5⟩, fun j' x x1 x2 => ?_⟩ ⟨g3, g5⟩ (fun x x1 x2 => ?_) (by rw [zu_off (by omega), g2]) (by rw [zu_sm rfl])
          · rcases Int.lt_or_le x v with h | h
            · exact h
            · have := far j' x h x2
              omega
          · have := far j x x1 x2
            omega
      | succ d ih =>
        intro s a M hs hvs ha hBM hF hI
        have e25 : M 25 2 = (n : Int) := (hF 25 2 rfl).trans ((hF0 25 2 rfl).trans hn)
        have ei : (M 25 2 * 1107 + (s : Int)).toNat = n * 1107 + s := by omega
        have e27 : M 27 (n * 1107 + s) = (b_w f n s : Int) := (hF 27 _ rfl).trans (hw n s (Nat.le_refl n) (by omega))
        have wl := b_w_lt (f := f) n s
        have p21 : 2 ^ (n + 1) ≤ 2 ^ 21 := Nat.pow_le_pow_right (by omega) (by omega)
        have hbit : ∀ j, (b_w f n s).testBit j = b_mk f n j s := fun j => b_w_bit (fun q => (hf0 q).1) n s j
        have nx := fun a2 M2 => ih (s + 1) a2 M2 (by omega) (by omega)
        by_cases w0 : b_w f n s = 0
        · have none0 : ∀ j, b_mk f n j s = false := fun j => by rw [← hbit, w0, Nat.zero_testBit]
          have el : z_and (M 27 (n * 1107 + s)) (-(M 27 (n * 1107 + s))) = 0 := by
            rw [e27, w0]
            decide +kernel
          refine zb11_35 hT rfl hBM he (by omega) (by omega) (fun q => by omega) (fun _ _ => ?_) (fun _ q => absurd (by rw [ei]; exact el) q) (fun _ q => absurd (by rw [ei]; exact el) q) (fun _ q => absurd (by rw [ei]; exact el) q)
          refine nx a M ha hBM hF ?_
          rcases hI with ⟨g0, g⟩ | ⟨j, q, g0, g1, g2, g3, g4, g5, g6⟩
          · refine Or.inl ⟨g0, fun x x1 x2 j => ?_⟩
            by_cases ex : x = s
            · rw [ex]
              exact none0 j
            · exact g x x1 (by omega) j
          · refine Or.inr ⟨j, q, g0, g1, g2, g3, by omega, g5, fun x x1 x2 j' hj' => ?_⟩
            by_cases ex : x = s
            · rw [ex, none0] at hj'
              cases hj'
            · exact g6 x x1 (by omega) j' hj'
        · obtain ⟨k, h, hk⟩ := b_odd (b_w f n s) (by omega)
          have q1 : 1 ≤ 2 ^ k := Nat.one_le_two_pow
          have q2 : 2 ^ k * 1 ≤ 2 ^ k * (2 * h + 1) := Nat.mul_le_mul_left _ (by omega)
          have el : z_and (M 27 (n * 1107 + s)) (-(M 27 (n * 1107 + s))) = ((2 ^ k : Nat) : Int) := by
            rw [e27, hk]
            exact z_lowbit (by omega)
          have bk : b_mk f n k s = true := by
            rw [← hbit, hk, b_wbit, if_neg (by omega), Nat.sub_self]
            exact (b_2h0 h).1
          have lk : ∀ j, b_mk f n j s = true → k ≤ j := fun j hj => by
            rcases Nat.lt_or_ge j k with x | x
            · rw [← hbit, hk, b_wbit, if_pos x] at hj
              cases hj
            · exact x
          have kn := b_mk_le n k _ bk
          have pk : 2 ^ k ≤ 2 ^ 20 := Nat.pow_le_pow_right (by omega) (by omega)
          have el2 : z_and (M 27 ((M 25 2 * 1107 + (s : Int)).toNat)) (-(M 27 ((M 25 2 * 1107 + (s : Int)).toNat))) = ((2 ^ k : Nat) : Int) := by rw [ei]; exact el
          refine zb11_35 hT rfl hBM he (by omega) (by omega) (fun q => by omega) (fun _ q => by omega) (fun _ _ q hz => ?_) (fun _ _ q q3 => ?_) (fun _ _ q q3 hz => ?_)
          · rw [el2]
            refine nx (2 ^ k) _ pk hz (hF.set rfl) (Or.inr ⟨k, s, rfl, kn, by rw [zu_sm rfl], hvs, by omega, bk, fun x x1 x2 j' hj' => ?_⟩)
            by_cases ex : x = s
            · rw [ex] at hj' ⊢
              have := lk j' hj'
              omega
            · rcases hI with ⟨g0, g⟩ | ⟨j, q, g0, g1, g2, g3, g4, g5, g6⟩
              · rw [g x x1 (by omega) j'] at hj'
                cases hj'
              · have : 1 ≤ 2 ^ j := Nat.one_le_two_pow
                omega
          · refine nx a M ha hBM hF ?_
            rcases hI with ⟨g0, g⟩ | ⟨j, q, g0, g1, g2, g3, g4, g5, g6⟩
            · omega
            · rw [el2, g0] at q3
              have hjk : j ≤ k := (Nat.pow_le_pow_iff_right (a := 2) (by omega)).mp (by omega)
              refine Or.inr ⟨j, q, g0, g1, g2, g3, by omega, g5, fun x x1 x2 j' hj' => ?_⟩
              by_cases ex : x = s
              · rw [ex] at hj' ⊢
                have := lk j' hj'
                omega
              · exact g6 x x1 (by omega) j' hj'
          · rw [el2] at q3 ⊢
            rcases hI with ⟨g0, g⟩ | ⟨j, q, g0, g1, g2, g3, g4, g5, g6⟩
            · omega
            · rw [g0] at q3
              have hkj : k < j := (Nat.pow_lt_pow_iff_right (a := 2) (by omega)).mp (by omega)
              refine nx (2 ^ k) _ pk hz (hF.set rfl) (Or.inr ⟨k, s, rfl, kn, by rw [zu_sm rfl], hvs, by omega, bk, fun x x1 x2 j' hj' => ?_⟩)
              by_cases ex : x = s
              · rw [ex] at hj' ⊢
                have := lk j' hj'
                omega
              · have := g6 x x1 (by omega) j' hj'
                omega
    exact loop (e + 1 - v) v 0 M0 (by omega) (by omega) (by omega) hB0 zFr.refl (Or.inl ⟨rfl, fun x x1 x2 => by omega⟩)
  refine zb11_4 hT rfl hB hv (by omega) (fun q1 q2 => ?_) (fun q1 q2 => ?_) (fun q => h0 (fun j s hs => ?_))
  · have := rest (v + 107) (by omega) q1 (Or.inl (by omega)) (by omega) (by omega)
    rw [show (v : Int) + 108 - 1 = ((v + 107 : Nat) : Int) by omega]
    exact this
  · exact rest t (by omega) q1 (Or.inr rfl) (by omega) (by omega)
  · have := b_mk_tot (fun q => (hf0 q).1) n j s hs
    omega
end ZChoose2
/-- both mean the same set -/
theorem b_agree {f g : Nat → Int} {n v w w' q P : Nat} (hfg : ∀ i, i < n → f i = g i) (h1 : b_few f n v w) (h2 : b_few g n v w') (hq : v ≤ q ∧ b_mk f n w q = true) (hl : ∀ s : Int, (v : Int) ≤ s → b_mk f n w s = true → (q : Int) ≤ s) (hP : b_best g n v w' P) : w = w' ∧ b_pick f n w q = P ∧ b_sum g n P = (q : Int) := by
  have em : ∀ j s, b_mk g n j s = b_mk f n j s := fun j s => (b_mk_fcongr n j s hfg).symm
  have ew : w = w' := by
    obtain ⟨a1, ⟨s1, a2, a3⟩, a4⟩ := h1
    obtain ⟨c1, ⟨s2, c2, c3⟩, c4⟩ := h2
    rcases Nat.lt_trichotomy w w' with x | x | x
    · have := c4 w s1 x (by rw [em]; exact a3)
      omega
    · exact x
    · have := a4 w' s2 x (by rw [← em]; exact c3)
      omega
  subst ew
  have es : ∀ y, b_sum g n y = b_sum f n y := fun y => (b_sum_fcongr n hfg).symm
  obtain ⟨⟨p1, p2⟩, p3, p4⟩ := hP
  obtain ⟨o1, o2⟩ := b_pick_ok n w q hq.2
  have ol := b_pick_lt (f := f) n w q
  have hm := b_mk_set (f := f) (x := P) n
  rw [p2] at hm
  have c1 := hl (b_sum f n P) (by rw [← es]; exact p3) hm
  have c2 := p4 _ ol o1 (by rw [es, o2]; omega)
  rw [es, es, o2] at c2
  have e : b_sum f n P = (q : Int) := by omega
  refine ⟨rfl, ?_, by rw [es]; exact e⟩
  have c3 := b_pick_le (f := f) n P p1
  rw [p2, e] at c3
  omega
theorem b_agree0 {f g : Nat → Int} {n v w : Nat} (hfg : ∀ i, i < n → f i = g i) (h1 : b_non f n v) (h2 : b_few g n v w) : False := by
  obtain ⟨_, ⟨s, a, b⟩, _⟩ := h2
  have := h1 w s (by rw [b_mk_fcongr n w s hfg]; exact b)
  omega
end
-- 9u.quilt.lean.txt
section
/-! patches(), quilt(). -/
/-- each that is left has its place -/
theorem b_left {x : Nat} : ∀ n j, j + b_cnt n x < n → ∃ k, k < n ∧ x.testBit k = false ∧ k - b_cnt k x = j
  | 0, j, h => by omega
  | n + 1, j, h => by
    rw [b_cnt] at h
    have hc := b_cnt_le (x := x) n
    by_cases e : x.testBit n = true
    · rw [if_pos e] at h
      obtain ⟨k, k1, k2, k3⟩ := b_left (x := x) n j (by omega)
      exact ⟨k, by omega, k2, k3⟩
    · rw [if_neg e] at h
      by_cases q : j + b_cnt n x < n
      · obtain ⟨k, k1, k2, k3⟩ := b_left (x := x) n j q
        exact ⟨k, by omega, k2, k3⟩
      · exact ⟨n, by omega, by simpa using e, by omega⟩
section ZQuilt
variable {T : Nat → Nat → zG → (Option zA → zM → Prop) → Prop} {B : Int}
/-- a set is taken out of the class's box -/
theorem z_takeOutS (hT : zRules T) {D : Nat} {κ : Option zA → zM → Prop} {m : zM} {x N : Nat} (hB : zB m) (hN : m 25 2 = (N : Int)) (hx : x ≤ 2 ^ 20)
    (hk : ∀ m1, zB m1 → zFr (inL [(25, some 2), (26, none)]) m m1 → m1 25 2 = ((N - b_cnt N x : Nat) : Int) → (∀ k, k < N → x.testBit k = false → m1 26 (k - b_cnt k x) = m 26 k) → κ none m1) : T (D + 1) 10 (0, [(0, zr 25), (1, zi (x : Int))], [], m) κ := by
  have b25 : 0 ≤ m 25 2 ∧ m 25 2 ≤ 20 := hB 25 2
  have key : ∀ (j t : Nat) (M : zM), t + j = N → zB M → zFr (inL [(26, none)]) m M → (∀ k, k < t → x.testBit k = false → M 26 (k - b_cnt k x) = m 26 k) → (∀ k, t ≤ k → M 26 k = m 26 k) → T (D + 1) 10 (4, [(0, zr 25), (1, zi (x : Int)), (2, zi ((t - b_cnt t x : Nat) : Int)), (3, zi (t : Int))], [], M) κ := by
    intro j
    induction j with
    | zero =>
      intro t M ht hBM hF g1 g2
      have et : t = N := by omega
      subst et
      have e25 : M 25 2 = (t : Int) := (hF 25 2 rfl).trans hN
      refine zb10_4 hT rfl hBM (by omega) (by omega) (by omega) (fun _ hz => ?_) (fun q => by omega) (fun q => by omega) (fun q => by omega)
      exact hk _ hz ((hF.sub (inL_sub (by decide))).set rfl) (by rw [zu_sm rfl]) (fun k k1 k2 => by rw [zu_dn (by omega)]; exact g1 k k1 k2)
    | succ j ih =>
      intro t M ht hBM hF g1 g2
      have e25 : M 25 2 = (N : Int) := (hF 25 2 rfl).trans hN
      have hc := b_cnt_le (x := x) t
      have hb : z_and (z_shr (x : Int) (t : Int)) 1 = if x.testBit t = true then 1 else 0 := z_bit (by omega) (by omega)
      refine zb10_4 hT rfl hBM (by omega) (by omega) (by omega) (fun q => by omega) (fun _ q => ?_) (fun _ _ => by omega) (fun _ q hz => ?_)
      · have e : x.testBit t = true := by
          by_cases e : x.testBit t = true
          · exact e
          · rw [hb, if_neg e] at q
            exact absurd rfl q
        have := ih (t + 1) M (by omega) hBM hF (fun k k1 k2 => ?_) (fun k k1 => g2 k (by omega))
        · rw [show t + 1 - b_cnt (t + 1) x = t - b_cnt t x by rw [b_cnt, if_pos e]; omega] at this
          exact this
        · by_cases ek : k = t
          · rw [ek, e] at k2
            cases k2
          · exact g1 k (by omega) k2
      · have e : ¬ x.testBit t = true := by
          intro e
          rw [hb, if_pos e] at q
          exact absurd q (by decide)
        have h1 : t + 1 - b_cnt (t + 1) x = t - b_cnt t x + 1 := by rw [b_cnt, if_neg e]; omega
        have := ih (t + 1) _ (by omega) hz (hF.set rfl) (fun k k1 k2 => ?_) (fun k k1 => ?_)
        · rw [h1] at this
          exact this
        · by_cases ek : k = t
          · rw [ek, zu_sm rfl, g2 t (Nat.le_refl t)]
          · have h2 := b_cnt_le (x := x) k
            have h3 := b_cnt_slow (x := x) (k + 1) t (by omega)
            have h4 : b_cnt (k + 1) x = b_cnt k x := by rw [b_cnt, k2]; rfl
            rw [zu_off (by omega), g1 k (by omega) k2]
        · rw [zu_off (by omega), g2 k (by omega)]
  refine zb10_0 (D := D) hT hB (by omega) ?_
  exact key N 0 m (by omega) hB zFr.refl (fun k k1 => by omega) (fun k _ => rfl)
/-- and out of the reference's -/
theorem z_takesS (hT : zRules T) {D : Nat} {κ : Option zA → zM → Prop} {m : zM} {x N r : Nat} (hB : zB m) (hN : m 75 56 = (N : Int)) (hx : x < 2 ^ N) (hr : r ≤ 20) (h38 : m 74 38 = (x : Int))
    (hk : ∀ m1, zB m1 → zFr (inL [(75, none)]) m m1 → m1 75 56 = ((N - b_cnt N x : Nat) : Int) → (∀ y, (y < 36 ∨ 56 < y) → m1 75 y = m 75 y) → (∀ k, k < N → x.testBit k = false → m1 75 (k - b_cnt k x + 36) = m 75 (k + 36)) → T (D + 4) 248 (41, [(0, zr 74), (2, zi (r : Int)), (3, zi (-1))], [], m1) κ) : T (D + 4) 248 (38, [(0, zr 74), (2, zi (r : Int))], [], m) κ := by
  have b56 : 0 ≤ m 75 56 ∧ m 75 56 ≤ 20 := hB 75 56
  have pn : 2 ^ N ≤ 2 ^ 20 := Nat.pow_le_pow_right (by omega) (by omega)
  have top : ∀ k, N ≤ k → x.testBit k = false := fun k hk => Nat.testBit_lt_two_pow (Nat.lt_of_lt_of_le hx (Nat.pow_le_pow_right (by omega) hk))
  have key : ∀ (i : Nat) (M : zM), i ≤ 20 → zB M → zFr (inL [(75, none)]) m M → M 75 56 = (N : Int) - (b_cnt N x - b_cnt i x : Nat) → (∀ y, (y < 36 ∨ 56 < y) → M 75 y = m 75 y) → (∀ k, k < N → k < i → M 75 (k + 36) = m 75 (k + 36)) → (∀ k, k < N → i ≤ k → x.testBit k = false → M 75 (k - (b_cnt k x - b_cnt i x) + 36) = m 75 (k + 36)) → T (D + 4) 248 (41, [(0, zr 74), (2, zi (r : Int)), (3, zi ((i : Int) - 1))], [], M) κ := by
    intro i
    induction i with
    | zero =>
      intro M hi hBM hF g0 g1 g2 g3
      have hc := b_cnt_le (x := x) N
      refine hk M hBM hF ?_ g1 (fun k k1 k2 => ?_)
      · rw [g0]
        show (N : Int) - ((b_cnt N x - 0 : Nat) : Int) = _
        omega
      · have := g3 k k1 (Nat.zero_le k) k2
        rwa [show b_cnt k x - b_cnt 0 x = b_cnt k x from Nat.sub_zero _] at this
    | succ i ih =>
      intro M hi hBM hF g0 g1 g2 g3
      have ei : ((i + 1 : Nat) : Int) - 1 = (i : Int) := by omega
      have e38 : M 74 38 = (x : Int) := (hF 74 38 rfl).trans h38
      have hb : z_and (z_shr (M 74 38) (((i + 1 : Nat) : Int) - 1)) 1 = if x.testBit i = true then 1 else 0 := by
        rw [ei, e38]
        exact z_bit (by omega) (by omega)
      refine zb248_41 hT rfl hBM hr (by omega) (fun q => by omega) (fun _ q => ?_) (fun _ q => ?_)
      · have e : x.testBit i = false := by
          cases e : x.testBit i with
          | false => rfl
          | true =>
            rw [hb, e] at q
            exact absurd rfl q
        have ec : b_cnt (i + 1) x = b_cnt i x := by rw [b_cnt, e]; rfl
        rw [ec] at g0 g3
        rw [show ((i + 1 : Nat) : Int) - 1 + -1 = (i : Int) - 1 by omega]
        refine ih M (by omega) hBM hF g0 g1 (fun k k1 k2 => g2 k k1 (by omega)) (fun k k1 k2 k3 => ?_)
        by_cases ek : k = i
        · rw [ek, Nat.sub_self, Nat.sub_zero]
          exact g2 i (by omega) (by omega)
        · exact g3 k k1 (by omega) k3
      · have e : x.testBit i = true := by
          cases e : x.testBit i with
          | true => rfl
          | false =>
            rw [hb, e] at q
            exact absurd q (by decide)
        have iN : i < N := by
          rcases Nat.lt_or_ge i N with h | h
          · exact h
          · rw [top i h] at e
            cases e
        have ec : b_cnt (i + 1) x = b_cnt i x + 1 := by rw [b_cnt, e]; rfl
        have hm := b_cnt_mono (x := x) (i + 1) N (by omega)
        have hs := b_cnt_slow (x := x) (i + 1) N (by omega)
        obtain ⟨S, hS⟩ : ∃ S : Nat, M 75 56 = (S : Int) := ⟨(M 75 56).toNat, by have := hBM 75 56; have h2 : 0 ≤ M 75 56 ∧ M 75 56 ≤ 20 := this; omega⟩
        rw [ei]
        refine z_takes1 (N := S) hT hBM hS (by omega) (fun m5 hB5 hF5 y1 y2 y3 => ?_)
        refine zb248_61 hT rfl hB5 hr (by omega) ?_
        rw [show (i : Int) + -1 = (i : Int) - 1 by omega]
        refine ih m5 (by omega) hB5 (hF.trans hF5) (by rw [y1]; omega) (fun y hy => by rw [y2 y hy, g1 y hy]) (fun k k1 k2 => ?_) (fun k k1 k2 k3 => ?_)
        · rw [y3 k (by omega), if_pos k2, g2 k k1 (by omega)]
        · have ek : ¬ k = i := fun q => by rw [q, e] at k3; cases k3
          have hm2 := b_cnt_mono (x := x) (i + 1) k (by omega)
          have hs2 := b_cnt_slow (x := x) (i + 1) k (by omega)
          have hm3 := b_cnt_mono (x := x) (k + 1) N (by omega)
          have hs3 := b_cnt_slow (x := x) (k + 1) N (by omega)
          have hk1 : b_cnt (k + 1) x = b_cnt k x := by rw [b_cnt, k3]; rfl
          have := g3 k k1 (by omega) k3
          rw [y3 _ (by omega), if_neg (by omega)]
          rw [show k - (b_cnt k x - b_cnt i x) + 37 = k - (b_cnt k x - b_cnt (i + 1) x) + 36 by omega]
          exact this
  refine zb248_38 hT rfl hB hr ?_
  have h22 := b_cnt_ge N 20 hx (by omega)
  have := key 20 m (by omega) hB zFr.refl (by rw [hN, h22]; omega) (fun _ _ => rfl) (fun _ _ _ => rfl) (fun k k1 k2 _ => by omega)
  exact this
/-- patches(), quilt(): what the class's Box says of v -/
theorem z_piecesFor (hT : zRules T) {D : Nat} {κ : Option zA → zM → Prop} {m : zM} {n : Nat} {v : Int} (hB : zB m) (hn : m 25 2 = (n : Int)) (hv : isI v)
    (hb : ¬ (1 ≤ v ∧ v ≤ 999) → κ (some (zi (-1))) m)
    (h0 : ∀ v0 : Nat, v = (v0 : Int) → 1 ≤ v0 → v0 ≤ 999 → b_non (b_pf (m 26)) n v0 → κ (some (zi (-2))) m)
    (h1 : ∀ (v0 w q : Nat) (M : zM), v = (v0 : Int) → 1 ≤ v0 → v0 ≤ 999 → zB M → zFr (inL [(27, none), (25, some 3), (25, some 4)]) m M → b_few (b_pf (m 26)) n v0 w → (v0 ≤ q ∧ b_mk (b_pf (m 26)) n w q = true) → (∀ s : Int, (v0 : Int) ≤ s → b_mk (b_pf (m 26)) n w s = true → (q : Int) ≤ s) → M 25 4 = (q : Int) → M 25 3 = (b_pick (b_pf (m 26)) n w q : Int) → κ (some (zi (w : Int))) M) : T (D + 4) 178 (0, [(0, zr 1), (1, zi v)], [], m) κ := by
  have b25 : 0 ≤ m 25 2 ∧ m 25 2 ≤ 20 := hB 25 2
  refine zb178_0 hT hB hv (fun _ => hb (by omega)) (fun q1 q2 => ?_) (fun _ _ => hb (by omega))
  obtain ⟨v0, rfl⟩ : ∃ a : Nat, v = (a : Int) := ⟨v.toNat, by omega⟩
  refine z_choose hT hB hn (by omega) (by omega) rfl (fun hnon => ?_) (fun w q M hBM hF g1 g2 g3 g4 g5 => ?_)
  · exact zb178_24 hT rfl (by omega) (h0 v0 rfl (by omega) (by omega) hnon)
  · have := g1.1
    exact zb178_24 hT rfl (by omega) (h1 v0 w q M rfl (by omega) (by omega) hBM hF g1 g2 g3 g4 g5)
theorem w_patches (hT : zRules T) {v : Int} (hv : isI v) : Way T 132 247 [(0, zr 1), (1, zi v)] [(0, zr 74), (1, zi v)] 5 4 B B True := by
  rintro D m sc ⟨n, k, hI⟩ κ hκ
  have hI0 := hI
  have i1 := hI.1
  have hRel := hI.2.2.2.1.2.2.2.1
  have b25 : 0 ≤ m 25 2 ∧ m 25 2 ≤ 20 := i1 25 2
  have e25 : m 25 2 = m 75 56 := hRel.2.2.1
  obtain ⟨N, hN⟩ : ∃ N : Nat, m 25 2 = (N : Int) := ⟨(m 25 2).toNat, by omega⟩
  have hfg : ∀ M : zM, M 75 = m 75 → ∀ i, i < N → b_pf (m 26) i = b_pc M i := fun M hM i hi => by
    show (if i < 20 then m 26 i else 0) = M 75 (i + 36)
    rw [if_pos (by omega), hM]
    exact hRel.2.2.2.1 i (by omega)
  have bad : ∀ M0, zB M0 → Agree coreK m M0 → ¬ (1 ≤ v ∧ v ≤ 999) → κ (some (zi (-1))) M0 := by
    intro M0 hB0 hA0 hno
    refine hκ _ _ (fun D2 κ2 h2 => ?_)
    have fin : zB (zu M0 74 12 0) → κ2 (some (zi (-1))) (zu M0 74 12 0) := fun hz => h2 _ _ (fun _ => rfl) ⟨n, k, Inv_fr (hA0.trans (.of (L := [(74, some 12)]) (zFr.refl.set rfl) rfl)) hz hI0⟩
    exact zb247_0 hT hB0 hv (fun _ hz => fin hz) (fun _ _ hz => fin hz) (fun q1 q2 => absurd ⟨by omega, by omega⟩ hno)
  refine zb132_0 hT i1 hv ?_
  refine z_piecesFor (n := N) hT i1 hN hv (fun hno => ?_) (fun v0 ev v1 v9 hnon => ?_) (fun v0 w q M ev v1 v9 hBM hF g1 g2 g3 g4 g5 => ?_)
  · exact zb132_5 hT rfl i1 hv (by omega) (fun _ => bad m i1 (fun _ _ _ => rfl) hno) (fun q => by omega)
  · subst ev
    refine zb132_5 hT rfl i1 hv (by omega) (fun _ => ?_) (fun q => by omega)
    refine hκ _ _ (fun D2 κ2 h2 => ?_)
    refine zb247_0 hT i1 hv (fun q => by omega) (fun _ q => by omega) (fun _ _ hz => ?_)
    refine z_findP (n := N) hT hz (by rw [zu_dn (by omega), ← e25, hN]) v9 v1 (fun M hBM hF _ => ?_) (fun w P M hBM hF g1 _ _ _ => ?_)
    · exact zb247_23 hT rfl hBM hv (by omega) (fun q => by omega) (fun _ => h2 _ _ (fun _ => rfl) ⟨n, k, Inv_fr ((Agree.of (L := [(74, some 12)]) (zFr.refl.set rfl) rfl).trans (.of hF rfl)) hBM hI0⟩)
    · exact (b_agree0 (hfg (zu m 74 12 0) (zu_dnR (by omega))) hnon g1).elim
  · subst ev
    have hw := g1.1
    refine zb132_5 hT rfl hBM hv (by omega) (fun q => by omega) (fun _ hz => ?_)
    refine hκ _ _ (fun D2 κ2 h2 => ?_)
    have hF1 : zFr (inL [(27, none), (25, some 3), (25, some 4), (72, some 1), (73, none)]) m (zu (zu (zu M 72 1 2) 73 0 ((M 25 4) - (v0 : Int))) 73 1 (M 25 3)) := (((hF.sub (inL_sub (by decide))).set rfl).set rfl).set rfl
    generalize (zu (zu (zu M 72 1 2) 73 0 ((M 25 4) - (v0 : Int))) 73 1 (M 25 3)) = M1 at hz hF1 ⊢
    have f75 : M1 75 = m 75 := funext fun j => hF1 75 j rfl
    refine zb247_0 hT hz hv (fun q => by omega) (fun _ q => by omega) (fun _ _ hz2 => ?_)
    have hF2 : zFr (inL [(27, none), (25, some 3), (25, some 4), (72, some 1), (73, none), (74, some 12)]) m (zu M1 74 12 0) := (hF1.sub (inL_sub (by decide))).set rfl
    refine z_findP (n := N) hT hz2 (by rw [zu_dn (by omega), f75, ← e25, hN]) v9 v1 (fun M3 hB3 hF3 hnon => ?_) (fun w2 P M3 hB3 hF3 g6 g7 _ _ => ?_)
    · exfalso
      obtain ⟨_, ⟨s, a, b⟩, _⟩ := g1
      have := hnon w s (by rw [← b_mk_fcongr N w s (hfg (zu M1 74 12 0) (by rw [zu_dnR (by omega)]; exact f75))]; exact b)
      omega
    · obtain ⟨rfl, -, -⟩ := b_agree (hfg (zu M1 74 12 0) (by rw [zu_dnR (by omega)]; exact f75)) g1 g6 g2 g3 g7
      refine zb247_23 hT rfl hB3 hv (by omega) (fun _ hz4 => ?_) (fun q => by omega)
      refine h2 _ _ (fun _ => rfl) ⟨n, k, Inv_fr ((Agree.of hF2 rfl).trans ((Agree.of hF3 rfl).trans (.of (L := [(74, some 11), (81, none)]) (((((zFr.refl.set rfl).set rfl).set rfl).set rfl).set rfl) rfl))) hz4 hI0⟩
theorem w_quilt (hT : zRules T) {v : Int} (hv : isI v) : Way T 133 248 [(0, zr 1), (1, zi v)] [(0, zr 74), (1, zi v)] 5 4 B B True := by
  rintro D m sc ⟨n, k, hI⟩ κ hκ
  have hI0 := hI
  obtain ⟨i1, i2, i3, i4, i5, i6, i7, i8, i9, i10, i11⟩ := hI
  obtain ⟨⟨n1, n2⟩, ⟨k1, k2⟩, hh, hRel, hok⟩ := i4
  have b17 : 0 ≤ m 17 0 ∧ m 17 0 ≤ 6 := i1 17 0
  have b171 : 0 ≤ m 17 1 ∧ m 17 1 ≤ 8 := i1 17 1
  have b25 : 0 ≤ m 25 2 ∧ m 25 2 ≤ 20 := i1 25 2
  have e25 : m 25 2 = m 75 56 := hRel.2.2.1
  have e79 : m 79 2 = m 24 2 := i5 2 (by omega)
  have b242 : 0 ≤ m 24 2 ∧ m 24 2 ≤ 9 := i1 24 2
  obtain ⟨N, hN⟩ : ∃ N : Nat, m 25 2 = (N : Int) := ⟨(m 25 2).toNat, by omega⟩
  have pn : 2 ^ N ≤ 2 ^ 20 := Nat.pow_le_pow_right (by omega) (by omega)
  have hfg : ∀ M : zM, M 75 = m 75 → ∀ i, i < N → b_pf (m 26) i = b_pc M i := fun M hM i hi => by
    show (if i < 20 then m 26 i else 0) = M 75 (i + 36)
    rw [if_pos (by omega), hM]
    exact hRel.2.2.2.1 i (by omega)
  refine zb133_0 hT i1 hv ?_
  refine z_piecesFor (n := N) hT i1 hN hv (fun hno => ?_) (fun v0 ev v1 v9 hnon => ?_) (fun v0 w q M ev v1 v9 hBM hF g1 g2 g3 g4 g5 => ?_)
  · refine zb133_5 hT rfl i1 hv (by omega) (fun q => by omega) (fun _ => ?_)
    refine hκ _ _ (fun D2 κ2 h2 => ?_)
    have fin : zB (zu m 74 12 0) → κ2 (some (zi (-1))) (zu m 74 12 0) := fun hz => h2 _ _ (fun _ => rfl) ⟨n, k, Inv_fr (.of (L := [(74, some 12)]) (zFr.refl.set rfl) rfl) hz hI0⟩
    exact zb248_0 hT i1 hv (fun _ hz => fin hz) (fun _ _ hz => fin hz) (fun q1 q2 => absurd ⟨by omega, by omega⟩ hno)
  · subst ev
    refine zb133_5 hT rfl i1 hv (by omega) (fun q => by omega) (fun _ => ?_)
    refine hκ _ _ (fun D2 κ2 h2 => ?_)
    refine zb248_0 hT i1 hv (fun q => by omega) (fun _ q => by omega) (fun _ _ hz => ?_)
    refine z_findP (n := N) hT hz (by rw [zu_dn (by omega), ← e25, hN]) v9 v1 (fun M hBM hF _ => ?_) (fun w P M hBM hF g1 _ _ _ => ?_)
    · exact zb248_23 hT rfl hBM hv (by omega) (fun q => by omega) (fun _ => h2 _ _ (fun _ => rfl) ⟨n, k, Inv_fr ((Agree.of (L := [(74, some 12)]) (zFr.refl.set rfl) rfl).trans (.of hF rfl)) hBM hI0⟩)
    · exact (b_agree0 (hfg (zu m 74 12 0) (zu_dnR (by omega))) hnon g1).elim
  · subst ev
    have hw := g1.1
    generalize hx : b_pick (b_pf (m 26)) N w q = x at g5
    have hxl : x < 2 ^ N := hx ▸ b_pick_lt N w q
    have hIM : Inv B sc n k M := Inv_fr (.of hF rfl) hBM hI0
    have f26 : M 26 = m 26 := funext fun j => hF 26 j rfl
    have f75 : M 75 = m 75 := funext fun j => hF 75 j rfl
    have gN : M 25 2 = (N : Int) := (hF 25 2 rfl).trans hN
    rw [← f26] at g1 g2 g3 hfg
    rw [← f75] at hfg
    clear i2 i3 i5 i6 i7 i8 i9 i10 i11 hh hRel hok n1 n2 k1 k2 hI0
    obtain ⟨i1', i2, i3, i4, i5, i6, i7, i8, i9, i10, i11⟩ := hIM
    have hIM : Inv B sc n k M := ⟨i1', i2, i3, i4, i5, i6, i7, i8, i9, i10, i11⟩
    obtain ⟨⟨n1, n2⟩, ⟨k1, k2⟩, hh, hRel, hok⟩ := i4
    have e79 : M 79 2 = M 24 2 := i5 2 (by omega)
    have b242 : 0 ≤ M 24 2 ∧ M 24 2 ≤ 9 := hBM 24 2
    have ct : b_cnt N x = w := by
      rw [← hx, ← f26]
      exact (b_pick_ok N w q g2.2).1
    have c17 : 0 ≤ M 17 0 ∧ M 17 0 ≤ 6 := hBM 17 0
    have c171 : 0 ≤ M 17 1 ∧ M 17 1 ≤ 8 := hBM 17 1
    refine zb133_5 hT rfl hBM hv (by omega) (fun _ => ?_) (fun q => by omega)
    refine z_remC hT hBM (fun m1 hB1 hF1 hC => ?_)
    refine zb133_17 (w := w) hT rfl hB1 (by omega) (fun hz => ?_)
    have x3 : m1 25 3 = (x : Int) := (hF1 25 3 rfl).trans g5
    rw [x3]
    have hFa : zFr (inL (remCL ++ [(17, some 12), (17, some 13), (17, some 14)])) M (zu (zu (zu (zu m1 17 12 0) 17 13 0) 17 14 0) 17 13 ((w : Int) - 1)) := ((((hF1.sub (inL_sub (by decide))).set rfl).set rfl).set rfl).set rfl
    have hFb : zFr (inL [(17, some 12), (17, some 13), (17, some 14)]) m1 (zu (zu (zu (zu m1 17 12 0) 17 13 0) 17 14 0) 17 13 ((w : Int) - 1)) := (((zFr.refl.set rfl).set rfl).set rfl).set rfl
    have a12 : (zu (zu (zu (zu m1 17 12 0) 17 13 0) 17 14 0) 17 13 ((w : Int) - 1)) 17 12 = 0 := by rw [zu_off (by omega), zu_off (by omega), zu_off (by omega), zu_sm rfl]
    have a13 : (zu (zu (zu (zu m1 17 12 0) 17 13 0) 17 14 0) 17 13 ((w : Int) - 1)) 17 13 = (w : Int) - 1 := by rw [zu_sm rfl]
    generalize (zu (zu (zu (zu m1 17 12 0) 17 13 0) 17 14 0) 17 13 ((w : Int) - 1)) = Ma at hz hFa hFb a12 a13 ⊢
    refine z_takeOutS (D := D + 3) (N := N) (x := x) hT hz ((hFa 25 2 rfl).trans gN) (by omega) (fun m2 hB2 hF2 g6 g7 => ?_)
    rw [ct] at g6
    have c12 : m2 17 12 = 0 := (hF2 17 12 rfl).trans a12
    have c13 : m2 17 13 = (w : Int) - 1 := (hF2 17 13 rfl).trans a13
    have c24 : m2 24 2 = M 24 2 := (hF2 24 2 rfl).trans (hFa 24 2 rfl)
    refine zb133_48 hT rfl hB2 (fun hz3 => ?_)
    have ev : wr (((m2 17 12) * (m2 24 1)) + ((m2 17 13) * (m2 24 2))) = ((w : Int) - 1) * M 24 2 := by
      have hb := z_mulB ((w : Int) - 1) (M 24 2) 19 9 171 (by omega) (by omega) (by omega) (by omega) rfl
      rw [c12, c13, c24, Int.zero_mul, Int.zero_add]
      exact wr_id (by omega) (by omega)
    have hb := z_mulB ((w : Int) - 1) (M 24 2) 19 9 171 (by omega) (by omega) (by omega) (by omega) rfl
    rw [ev] at hz3 ⊢
    generalize hcost : ((w : Int) - 1) * M 24 2 = cst at hb hz3 ⊢
    refine hκ _ _ (fun D2 κ2 h2 => ?_)
    have hFc : zFr (inL (remCL ++ [(17, some 10), (17, some 12), (17, some 13), (17, some 14), (25, some 2), (26, none)])) M (zu m2 17 10 (m2 17 10 - cst)) := ((hFa.sub (inL_sub (by decide))).trans (hF2.sub (inL_sub (by decide)))).set rfl
    have hFd : zFr (inL [(17, some 10), (17, some 12), (17, some 13), (17, some 14), (25, some 2), (26, none)]) m1 (zu m2 17 10 (m2 17 10 - cst)) := ((hFb.sub (inL_sub (by decide))).trans (hF2.sub (inL_sub (by decide)))).set rfl
    have d10 : (zu m2 17 10 (m2 17 10 - cst)) 17 10 = M 17 10 - cst := by rw [zu_sm rfl, hF2 17 10 rfl, hFa 17 10 rfl]
    have d25 : (zu m2 17 10 (m2 17 10 - cst)) 25 2 = ((N - w : Nat) : Int) := by rw [zu_dn (by omega), g6]
    have d26 : ∀ j, j < N → x.testBit j = false → (zu m2 17 10 (m2 17 10 - cst)) 26 (j - b_cnt j x) = M 26 j := fun j j1 j2 => by rw [zu_dn (by omega), g7 j j1 j2, hFa 26 j rfl]
    generalize (zu m2 17 10 (m2 17 10 - cst)) = Mc at hz3 hFc hFd d10 d25 d26 ⊢
    refine zb248_0 hT hz3 hv (fun q => by omega) (fun _ q => by omega) (fun _ _ hz4 => ?_)
    have hFe : zFr (inL (remCL ++ [(17, some 10), (17, some 12), (17, some 13), (17, some 14), (25, some 2), (26, none), (74, some 12)])) M (zu Mc 74 12 0) := (hFc.sub (inL_sub (by decide))).set rfl
    have hFf : zFr (inL [(17, some 10), (17, some 12), (17, some 13), (17, some 14), (25, some 2), (26, none), (74, some 12)]) m1 (zu Mc 74 12 0) := (hFd.sub (inL_sub (by decide))).set rfl
    have l10 : (zu Mc 74 12 0) 17 10 = M 17 10 - cst := by rw [zu_dn (by omega), d10]
    have l25 : (zu Mc 74 12 0) 25 2 = ((N - w : Nat) : Int) := by rw [zu_dn (by omega), d25]
    have l26 : ∀ j, j < N → x.testBit j = false → (zu Mc 74 12 0) 26 (j - b_cnt j x) = M 26 j := fun j j1 j2 => by rw [zu_dn (by omega), d26 j j1 j2]
    generalize (zu Mc 74 12 0) = Me at hz4 hFe hFf l10 l25 l26 ⊢
    have r75 : Me 75 = M 75 := funext fun j => hFe 75 j rfl
    have n56 : M 75 56 = (N : Int) := hRel.2.2.1.symm.trans gN
    refine z_findP (n := N) hT hz4 (by rw [r75, n56]) v9 v1 (fun M3 hB3 hF3 hnon => ?_) (fun w2 P M3 hB3 hF3 g8 g9 s38 _ => ?_)
    · exfalso
      obtain ⟨_, ⟨s, a, b⟩, _⟩ := g1
      have := hnon w s (by rw [← b_mk_fcongr N w s (hfg Me r75)]; exact b)
      omega
    obtain ⟨rfl, eP, -⟩ := b_agree (hfg Me r75) g1 g8 g2 g3 g9
    rw [f26, hx] at eP
    subst eP
    have hF3b : zFr (inL (remCL ++ [(17, some 10), (17, some 12), (17, some 13), (17, some 14), (25, some 2), (26, none), (74, some 12), (74, some 38), (74, some 39), (90, none)])) M M3 := (hFe.sub (inL_sub (by decide))).trans (hF3.sub (inL_sub (by decide)))
    have hF3c : zFr (inL [(17, some 10), (17, some 12), (17, some 13), (17, some 14), (25, some 2), (26, none), (74, some 12), (74, some 38), (74, some 39), (90, none)]) m1 M3 := (hFf.sub (inL_sub (by decide))).trans (hF3.sub (inL_sub (by decide)))
    have t75 : M3 75 = M 75 := funext fun j => hF3b 75 j rfl
    refine zb248_23 hT rfl hB3 hv (by omega) (fun _ => ?_) (fun q => by omega)
    refine z_remR_75 hT hB3 (fun m4 hB4 hF4 hR => ?_)
    rw [t75] at hR
    have hF4b : zFr (inL [(74, some 35), (87, none)]) M3 m4 := hF4.sub remWL
    have u75 : m4 75 = M 75 := (funext fun j => hF4b 75 j rfl).trans t75
    refine z_takesS (N := N) (x := x) (r := w) hT hB4 (by rw [u75, n56]) hxl (by omega) ((hF4b 74 38 rfl).trans s38) (fun m5 hB5 hF5 y1 y2 y3 => ?_)
    rw [ct] at y1
    refine zb248_41 (w := w) (i := -1) hT rfl hB5 (by omega) (by omega) (fun _ hz6 => ?_) (fun q => by omega) (fun q => by omega)
    have e5 : m5 79 2 * ((w : Int) - 1) = cst := by
      rw [hF5 79 2 rfl, hF4b 79 2 rfl, hF3b 79 2 rfl, e79, Int.mul_comm]
      exact hcost
    have ew5 : wr cst = cst := wr_id (by omega) (by omega)
    rw [e5] at hz6 ⊢
    rw [ew5]
    have t4 : zFr (inL [(75, none)]) m4 (zu m5 75 58 (m5 75 58 - cst)) := hF5.set rfl
    have z75 : ∀ j, (j < 36 ∨ j = 57) → (zu m5 75 58 (m5 75 58 - cst)) 75 j = M 75 j := fun j hj => by rw [zu_off (by omega), y2 j (by omega), u75]
    have z58 : (zu m5 75 58 (m5 75 58 - cst)) 75 58 = M 75 58 - cst := by rw [zu_sm rfl, y2 58 (by omega), u75]
    have z56 : (zu m5 75 58 (m5 75 58 - cst)) 75 56 = ((N - w : Nat) : Int) := by rw [zu_off (by omega), y1]
    have zbx : ∀ j, j < N → x.testBit j = false → (zu m5 75 58 (m5 75 58 - cst)) 75 (j - b_cnt j x + 36) = M 75 (j + 36) := fun j j1 j2 => by rw [zu_off (by omega), y3 j j1 j2, u75]
    generalize (zu m5 75 58 (m5 75 58 - cst)) = Mz at hz6 t4 z75 z58 z56 zbx ⊢
    have hFz : zFr (inL (remCL ++ [(17, some 10), (17, some 12), (17, some 13), (17, some 14), (25, some 2), (26, none), (74, some 12), (74, some 35), (74, some 38), (74, some 39), (75, none), (87, none), (90, none)])) M Mz := ((hF3b.sub (inL_sub (by decide))).trans (hF4b.sub (inL_sub (by decide)))).trans (t4.sub (inL_sub (by decide)))
    have hFy : zFr (inL [(74, some 35), (74, some 38), (74, some 39), (75, none), (87, none), (90, none)]) Me Mz := ((hF3.sub (inL_sub (by decide))).trans (hF4b.sub (inL_sub (by decide)))).trans (t4.sub (inL_sub (by decide)))
    refine h2 _ _ (fun _ => rfl) ⟨n, k, ?_⟩
    have hh' : HouseRel n k Mz := by
      refine ⟨⟨(hFz 17 0 rfl).trans n1, (hFz 74 4 rfl).trans n2⟩, ⟨(hFz 17 1 rfl).trans k1, (hFz 74 6 rfl).trans k2⟩, fun p hp => ?_, ?_, ?_⟩
      · rw [hFz 78 p rfl, hFz 18 p rfl]
        exact hh p hp
      · obtain ⟨r1, r2, r3, r4, r5, r6⟩ := hRel
        refine ⟨fun p hp => ?_, fun c hc => ?_, ?_, fun j hj => ?_, ?_, ?_⟩
        · rw [hFz 19 p rfl, hFz 20 p rfl, z75 p (by omega), z75 (p + 6) (by omega)]
          exact r1 p hp
        · rw [hFz 21 c rfl, hFz 22 c rfl, hFz 23 c rfl, z75 (c + 12) (by omega), z75 (c + 20) (by omega), z75 (c + 28) (by omega)]
          exact r2 c hc
        · rw [hFy 25 2 rfl, l25, z56]
        · rw [z56] at hj
          obtain ⟨y, y4, y5, y6⟩ := b_left (x := x) N j (by omega)
          rw [← y6, hFy 26 _ rfl, l26 y y4 y5, zbx y y4 y5]
          exact r4 y (by omega)
        · rw [hFz 17 11 rfl, z75 57 (by omega)]
          exact r5
        · rw [hFy 17 10 rfl, l10, z58, r6]
      · refine ⟨fun p hp => ?_, by rw [z56]; omega, by rw [z75 57 (by omega)]; exact hok.2.2.1, fun c hc => by rw [z75 (c + 20) (by omega)]; exact hok.2.2.2 c hc⟩
        rw [z75 p (by omega), z75 (p + 6) (by omega)]
        exact hok.1 p hp
    refine Inv_hu hIM hz6 (.of hFz rfl) hh' ?_ (by rw [z75 57 (by omega)]; exact i10)
    have a1 : Agree remCL m1 Mz := (Agree.of hFf rfl).trans (.of hFy rfl)
    have hF3d : zFr (inL (remCL ++ [(17, some 10), (17, some 12), (17, some 13), (17, some 14), (25, some 2), (26, none), (74, some 12), (74, some 38), (74, some 39), (90, none)])) M M3 := hF3b
    exact Undo_rem (by omega) (by omega) i6 hRel hok i10 hC a1 (.of hF3d rfl) (.of t4 rfl) hR
end ZQuilt
end
-- 9v.b26.lean.txt
section
section ZBlocks
variable {T : Nat → Nat → zG → (Option zA → zM → Prop) → Prop}
theorem zb147_0r (hT : zRules T) {D : Nat} {κ : Option zA → zM → Prop} {m : zM} {p : Int} 
    (o1 : T (D + 6) 181 (0, [(0, zr 1), (1, zi p)], [], m) (fun r m1 => T (D + 7) 147 (5, [(0, zr 1), (1, zi p)], r.toList ++ [], m1) κ)) :
    T (D + 7) 147 (0, [(0, zr 1), (1, zi p)], [], m) κ :=
  hT.1 [(33, [0, 3, 4, 5])] 6 (D + 7) 147 _ κ (o1)
theorem zb147_0 (hT : zRules T) {D : Nat} {κ : Option zA → zM → Prop} {m : zM} {p : Int}  (hB : zB m) (h_p : (-2147483648) ≤ p ∧ p ≤ 2147483647) 
    (k1 : T (D + 6) 181 (0, [(0, zr 1), (1, zi p)], [], m) (fun r m1 => T (D + 7) 147 (5, [(0, zr 1), (1, zi p)], r.toList ++ [], m1) κ)) :
    T (D + 7) 147 (0, [(0, zr 1), (1, zi p)], [], m) κ := by
  exact zb147_0r hT
    k1
theorem zb147_5r (hT : zRules T) {D : Nat} {κ : Option zA → zM → Prop} {m : zM} {v : Int} {lo : zL} (hlo : z_keep [0] lo = [(0, zr 1)]) 
    (o1 : wr v = 0 → T (D + 6) 91 (0, [(0, zr 52), (1, zi (wr (m 24 0)))], [], m) (fun r m1 => T (D + 7) 147 (26, [(0, zr 1), (2, zi v)], r.toList ++ [], m1) κ))
    (o2 : ¬ wr v = 0 → κ (some (zi (wr v))) m) :
    T (D + 7) 147 (5, lo, [zi v], m) κ :=
  zkeep hT hlo (hT.1 [(33, [0, 3, 4, 5])] 6 (D + 7) 147 _ κ (And.intro (fun a1 => (hT.1 [(33, [0, 3, 4, 5])] 6 (D + 7) 147 (17, [(0, zr 1), (2, zi v)], [zr 1, zr 52], m) _ (hT.1 [] 6 (D + 6) 27 _ _ (And.intro (z_ixL rfl) (hT.1 [(33, [0, 3, 4, 5])] 6 (D + 7) 147 _ _ (o1 a1)))))) (fun a2 => (o2 a2))))
theorem zb147_5 (hT : zRules T) {D : Nat} {κ : Option zA → zM → Prop} {m : zM} {v : Int} {lo : zL} (hlo : z_keep [0] lo = [(0, zr 1)])  (hB : zB m) (h_v : (-2147483648) ≤ v ∧ v ≤ 2147483647) 
    (k1 : v = 0 → T (D + 6) 91 (0, [(0, zr 52), (1, zi (m 24 0))], [], m) (fun r m1 => T (D + 7) 147 (26, [(0, zr 1), (2, zi v)], r.toList ++ [], m1) κ))
    (k2 : ¬ v = 0 → κ (some (zi v)) m) :
    T (D + 7) 147 (5, lo, [zi v], m) κ := by
  have hb1 : 0 ≤ (m 24 0) ∧ (m 24 0) ≤ 9 := hB 24 0
  have he0 : wr v = v := wr_id (by omega) (by omega)
  have he1 : wr (m 24 0) = (m 24 0) := wr_id (by omega) (by omega)
  have key := @zb147_5r T hT D κ m v lo hlo
  simp only [he0, he1, Int.toNat_natCast] at key
  exact key
    k1
    k2
theorem zb147_26r (hT : zRules T) {D : Nat} {κ : Option zA → zM → Prop} {m : zM} {c : Nat} {lo : zL} (hlo : z_keep [0] lo = [(0, zr 1)]) 
    (o1 : T (D + 7) 147 (33, [(0, zr 1), (3, zi (c : Int)), (4, zi 0), (5, zi 0)], [], m) κ) :
    T (D + 7) 147 (26, lo, [zi (c : Int)], m) κ :=
  zkeep hT hlo (hT.1 [(33, [0, 3, 4, 5])] 6 (D + 7) 147 _ κ (o1))
theorem zb147_26 (hT : zRules T) {D : Nat} {κ : Option zA → zM → Prop} {m : zM} {c : Nat} {lo : zL} (hlo : z_keep [0] lo = [(0, zr 1)])  (hB : zB m) (h_c : c ≤ 26) 
    (k1 : T (D + 7) 147 (33, [(0, zr 1), (3, zi (c : Int)), (4, zi 0), (5, zi 0)], [], m) κ) :
    T (D + 7) 147 (26, lo, [zi (c : Int)], m) κ := by
  exact zb147_26r hT hlo
    k1
theorem zb147_33r (hT : zRules T) {D : Nat} {κ : Option zA → zM → Prop} {m : zM} {c : Nat} {s : Int} {i : Nat} {lo : zL} (hlo : z_keep [0, 3, 4, 5] lo = [(0, zr 1), (3, zi (c : Int)), (4, zi s), (5, zi (i : Int))]) 
    (o1 : ¬ wr (i : Int) < wr (c : Int) → T (D + 6) 94 (0, [(0, zr 52), (1, zi (c : Int)), (2, zi (wr (m 24 0)))], [], m) (fun r m1 => T (D + 7) 147 (79, [(0, zr 1), (3, zi (c : Int)), (4, zi s), (5, zi (i : Int))], r.toList ++ [zr 72], m1) κ))
    (o2 : wr (i : Int) < wr (c : Int) → (0 ≤ wr (i : Int) ∧ wr (i : Int) < 26))
    (o3 : wr (i : Int) < wr (c : Int) → T (D + 7) 147 (33, [(0, zr 1), (3, zi (c : Int)), (4, zi (s + (m 58 ((wr (i : Int)).toNat)))), (5, zi ((i : Int) + 1))], [], m) κ) :
    T (D + 7) 147 (33, lo, [], m) κ :=
  zkeep hT hlo (hT.1 [(33, [0, 3, 4, 5])] 6 (D + 7) 147 _ κ (And.intro (fun a1 => (hT.1 [(33, [0, 3, 4, 5])] 6 (D + 7) 147 (65, [(0, zr 1), (3, zi (c : Int)), (4, zi s), (5, zi (i : Int))], [zr 1, zr 72], m) _ (hT.1 [] 6 (D + 6) 27 _ _ (And.intro (z_ixL rfl) (hT.1 [(33, [0, 3, 4, 5])] 6 (D + 7) 147 _ _ (o1 a1)))))) (fun a2 => (hT.1 [(33, [0, 3, 4, 5])] 6 (D + 7) 147 (45, [(0, zr 1), (3, zi (c : Int)), (4, zi s), (5, zi (i : Int))], [zr 52, zi s], m) _ (And.intro (o2 (Classical.byContradiction a2)) (hT.1 [(33, [0, 3, 4, 5])] 6 (D + 7) 147 (57, [(0, zr 1), (3, zi (c : Int)), (4, zi (s + (m 58 ((wr (i : Int)).toNat)))), (5, zi ((i : Int) + 1))], [], m) _ (o3 (Classical.byContradiction a2))))))))
theorem zb147_33 (hT : zRules T) {D : Nat} {κ : Option zA → zM → Prop} {m : zM} {c : Nat} {s : Int} {i : Nat} {lo : zL} (hlo : z_keep [0, 3, 4, 5] lo = [(0, zr 1), (3, zi (c : Int)), (4, zi s), (5, zi (i : Int))])  (hB : zB m) (h_c : c ≤ 26) (h_i : i ≤ 26) 
    (k1 : ¬ (i : Int) < (c : Int) → T (D + 6) 94 (0, [(0, zr 52), (1, zi (c : Int)), (2, zi (m 24 0))], [], m) (fun r m1 => T (D + 7) 147 (79, [(0, zr 1), (3, zi (c : Int)), (4, zi s), (5, zi (i : Int))], r.toList ++ [zr 72], m1) κ))
    (k2 : (i : Int) < (c : Int) → T (D + 7) 147 (33, [(0, zr 1), (3, zi (c : Int)), (4, zi (s + (m 58 i))), (5, zi ((i : Int) + 1))], [], m) κ) :
    T (D + 7) 147 (33, lo, [], m) κ := by
  have hb2 : 0 ≤ (m 24 0) ∧ (m 24 0) ≤ 9 := hB 24 0
  have he0 : wr (i : Int) = (i : Int) := wr_id (by omega) (by omega)
  have he1 : wr (c : Int) = (c : Int) := wr_id (by omega) (by omega)
  have he2 : (i : Int).toNat = i := by omega
  have he3 : wr (m 24 0) = (m 24 0) := wr_id (by omega) (by omega)
  have key := @zb147_33r T hT D κ m c s i lo hlo
  simp only [he0, he1, he2, he3, Int.toNat_natCast] at key
  exact key
    k1
    (fun x0 => by refine ⟨?_, ?_⟩ <;> omega)
    k2
theorem zb147_79r (hT : zRules T) {D : Nat} {κ : Option zA → zM → Prop} {m : zM} {s : Int} {v : Int} {lo : zL} (hlo : z_keep [4] lo = [(4, zi s)]) 
    (o1 : κ (some (zi (wr s))) (zu (zu m 72 1 1) 73 0 v)) :
    T (D + 7) 147 (79, lo, [zi v, zr 72], m) κ :=
  zkeep hT hlo (hT.1 [(33, [0, 3, 4, 5])] 6 (D + 7) 147 _ κ (hT.1 [] 6 (D + 6) 45 _ _ (And.intro trivial (hT.1 [] 6 (D + 6) 45 (10, [(0, zr 72), (1, zi v)], [zi 0, zr 73], (zu m 72 1 1)) _ (And.intro (And.intro (z_ixL rfl) trivial) (hT.1 [(33, [0, 3, 4, 5])] 6 (D + 7) 147 _ _ (o1)))))))
theorem zb147_79 (hT : zRules T) {D : Nat} {κ : Option zA → zM → Prop} {m : zM} {s : Int} {v : Int} {lo : zL} (hlo : z_keep [4] lo = [(4, zi s)])  (hB : zB m) (h_v : (-2147483648) ≤ v ∧ v ≤ 2147483647) 
    (k1 : zB (zu (zu m 72 1 1) 73 0 v) → κ (some (zi (wr s))) (zu (zu m 72 1 1) 73 0 v)) :
    T (D + 7) 147 (79, lo, [zi v, zr 72], m) κ := by
  have hb1 : (-2147483648) ≤ wr s ∧ wr s ≤ 2147483647 := wrB s
  exact zb147_79r hT hlo
    (k1  (zB_u (zB_u hB (show 0 ≤ 1 ∧ 1 ≤ 26 from ⟨by omega, by omega⟩)) trivial))
theorem zb94_0r (hT : zRules T) {D : Nat} {κ : Option zA → zM → Prop} {m : zM} {c : Nat} {h : Int} 
    (o1 : T (D + 2) 94 (8, [(0, zr 52), (1, zi (c : Int)), (2, zi h), (3, zi 0), (4, zi (-1)), (5, zi 0)], [], m) κ) :
    T (D + 2) 94 (0, [(0, zr 52), (1, zi (c : Int)), (2, zi h)], [], m) κ :=
  hT.1 [(8, [0, 1, 2, 3, 4, 5])] 6 (D + 2) 94 _ κ (o1)
theorem zb94_0 (hT : zRules T) {D : Nat} {κ : Option zA → zM → Prop} {m : zM} {c : Nat} {h : Int}  (hB : zB m) (h_c : c ≤ 26) (h_h : 0 ≤ h ∧ h ≤ 9) 
    (k1 : T (D + 2) 94 (8, [(0, zr 52), (1, zi (c : Int)), (2, zi h), (3, zi 0), (4, zi (-1)), (5, zi 0)], [], m) κ) :
    T (D + 2) 94 (0, [(0, zr 52), (1, zi (c : Int)), (2, zi h)], [], m) κ := by
  exact zb94_0r hT
    k1
theorem zb94_8r (hT : zRules T) {D : Nat} {κ : Option zA → zM → Prop} {m : zM} {c : Nat} {h : Int} {n : Nat} {a : Int} {i : Nat} {lo : zL} (hlo : z_keep [0, 1, 2, 3, 4, 5] lo = [(0, zr 52), (1, zi (c : Int)), (2, zi h), (3, zi (n : Int)), (4, zi a), (5, zi (i : Int))]) 
    (o1 : ¬ wr (i : Int) < wr (m 52 1) → κ (some (zi (wr (n : Int)))) m)
    (o2 : wr (i : Int) < wr (m 52 1) → wr (i : Int) = 0 → (0 ≤ wr (i : Int) ∧ wr (i : Int) < 60))
    (o3 : wr (i : Int) < wr (m 52 1) → wr (i : Int) = 0 → T (D + 1) 95 (0, [(0, zr 52), (1, zi (m 53 ((wr (i : Int)).toNat))), (2, zi (c : Int))], [], m) (fun r m1 => T (D + 2) 94 (50, [(0, zr 52), (1, zi (c : Int)), (2, zi h), (3, zi (n : Int)), (4, zi a), (5, zi (i : Int))], r.toList ++ [], m1) κ))
    (o4 : wr (i : Int) < wr (m 52 1) → ¬ wr (i : Int) = 0 → (0 ≤ wr (i : Int) ∧ wr (i : Int) < 60))
    (o5 : wr (i : Int) < wr (m 52 1) → ¬ wr (i : Int) = 0 → wr a < wr (m 53 ((wr (i : Int)).toNat)) → (0 ≤ wr (i : Int) ∧ wr (i : Int) < 60))
    (o6 : wr (i : Int) < wr (m 52 1) → ¬ wr (i : Int) = 0 → wr a < wr (m 53 ((wr (i : Int)).toNat)) → T (D + 1) 95 (0, [(0, zr 52), (1, zi (m 53 ((wr (i : Int)).toNat))), (2, zi (c : Int))], [], m) (fun r m1 => T (D + 2) 94 (50, [(0, zr 52), (1, zi (c : Int)), (2, zi h), (3, zi (n : Int)), (4, zi a), (5, zi (i : Int))], r.toList ++ [], m1) κ))
    (o7 : wr (i : Int) < wr (m 52 1) → ¬ wr (i : Int) = 0 → ¬ wr a < wr (m 53 ((wr (i : Int)).toNat)) → wr ((m 53 ((wr (i : Int)).toNat)) + h) < wr a → (0 ≤ wr (i : Int) ∧ wr (i : Int) < 60))
    (o8 : wr (i : Int) < wr (m 52 1) → ¬ wr (i : Int) = 0 → ¬ wr a < wr (m 53 ((wr (i : Int)).toNat)) → wr ((m 53 ((wr (i : Int)).toNat)) + h) < wr a → T (D + 1) 95 (0, [(0, zr 52), (1, zi (m 53 ((wr (i : Int)).toNat))), (2, zi (c : Int))], [], m) (fun r m1 => T (D + 2) 94 (50, [(0, zr 52), (1, zi (c : Int)), (2, zi h), (3, zi (n : Int)), (4, zi a), (5, zi (i : Int))], r.toList ++ [], m1) κ))
    (o9 : wr (i : Int) < wr (m 52 1) → ¬ wr (i : Int) = 0 → ¬ wr a < wr (m 53 ((wr (i : Int)).toNat)) → ¬ wr ((m 53 ((wr (i : Int)).toNat)) + h) < wr a → T (D + 2) 94 (8, [(0, zr 52), (1, zi (c : Int)), (2, zi h), (3, zi (n : Int)), (4, zi a), (5, zi ((i : Int) + 1))], [], m) κ) :
    T (D + 2) 94 (8, lo, [], m) κ :=
  zkeep hT hlo (hT.1 [(8, [0, 1, 2, 3, 4, 5])] 6 (D + 2) 94 _ κ (And.intro (fun a1 => (o1 a1)) (fun a2 => (And.intro (fun a3 => (hT.1 [(8, [0, 1, 2, 3, 4, 5])] 6 (D + 2) 94 (38, [(0, zr 52), (1, zi (c : Int)), (2, zi h), (3, zi (n : Int)), (4, zi a), (5, zi (i : Int))], [], m) _ (And.intro (o2 (Classical.byContradiction a2) a3) (hT.1 [(8, [0, 1, 2, 3, 4, 5])] 6 (D + 2) 94 (47, [(0, zr 52), (1, zi (c : Int)), (2, zi h), (3, zi (n : Int)), (4, zi a), (5, zi (i : Int))], [zi (c : Int), zi (m 53 ((wr (i : Int)).toNat)), zr 52], m) _ (o3 (Classical.byContradiction a2) a3))))) (fun a4 => (hT.1 [(8, [0, 1, 2, 3, 4, 5])] 6 (D + 2) 94 (22, [(0, zr 52), (1, zi (c : Int)), (2, zi h), (3, zi (n : Int)), (4, zi a), (5, zi (i : Int))], [], m) _ (And.intro (o4 (Classical.byContradiction a2) a4) (hT.1 [(8, [0, 1, 2, 3, 4, 5])] 6 (D + 2) 94 (32, [(0, zr 52), (1, zi (c : Int)), (2, zi h), (3, zi (n : Int)), (4, zi a), (5, zi (i : Int))], [zi h, zi (m 53 ((wr (i : Int)).toNat)), zi a], m) _ (hT.1 [] 6 (D + 1) 81 _ _ (And.intro (fun a5 => (And.intro (z_b01L rfl) (hT.1 [(8, [0, 1, 2, 3, 4, 5])] 6 (D + 2) 94 _ _ (And.intro (fun a7 => (z_litF a7 rfl).elim) (fun _ => (And.intro (o5 (Classical.byContradiction a2) a4 a5) (hT.1 [(8, [0, 1, 2, 3, 4, 5])] 6 (D + 2) 94 (46, [(0, zr 52), (1, zi (c : Int)), (2, zi h), (3, zi (n : Int)), (4, zi a), (5, zi (i : Int))], [zi (m 53 ((wr (i : Int)).toNat)), zr 52], m) _ (o6 (Classical.byContradiction a2) a4 a5)))))))) (fun a6 => (hT.1 [] 6 (D + 1) 81 (8, [(0, zi a), (1, zi (m 53 ((wr (i : Int)).toNat))), (2, zi h)], [zi h, zi (m 53 ((wr (i : Int)).toNat)), zi a], m) _ (And.intro (fun a8 => (And.intro (z_b01L rfl) (hT.1 [(8, [0, 1, 2, 3, 4, 5])] 6 (D + 2) 94 _ _ (And.intro (fun a10 => (z_litF a10 rfl).elim) (fun _ => (And.intro (o7 (Classical.byContradiction a2) a4 a6 a8) (hT.1 [(8, [0, 1, 2, 3, 4, 5])] 6 (D + 2) 94 (46, [(0, zr 52), (1, zi (c : Int)), (2, zi h), (3, zi (n : Int)), (4, zi a), (5, zi (i : Int))], [zi (m 53 ((wr (i : Int)).toNat)), zr 52], m) _ (o8 (Classical.byContradiction a2) a4 a6 a8)))))))) (fun a9 => (And.intro (z_b01L rfl) (hT.1 [(8, [0, 1, 2, 3, 4, 5])] 6 (D + 2) 94 _ _ (And.intro (fun _ => (o9 (Classical.byContradiction a2) a4 a6 a9)) (fun a11 => (a11 (z_litT rfl)).elim))))))))))))))))))
theorem zb94_8 (hT : zRules T) {D : Nat} {κ : Option zA → zM → Prop} {m : zM} {c : Nat} {h : Int} {n : Nat} {a : Int} {i : Nat} {lo : zL} (hlo : z_keep [0, 1, 2, 3, 4, 5] lo = [(0, zr 52), (1, zi (c : Int)), (2, zi h), (3, zi (n : Int)), (4, zi a), (5, zi (i : Int))])  (hB : zB m) (h_c : c ≤ 26) (h_h : 0 ≤ h ∧ h ≤ 9) (h_n : n ≤ 60) (h_a : (-2147483648) ≤ a ∧ a ≤ 2147483647) (h_i : i ≤ 60) 
    (k1 : ¬ (i : Int) < (m 52 1) → κ (some (zi (n : Int))) m)
    (k2 : (i : Int) < (m 52 1) → (i : Int) = 0 → T (D + 1) 95 (0, [(0, zr 52), (1, zi (m 53 i)), (2, zi (c : Int))], [], m) (fun r m1 => T (D + 2) 94 (50, [(0, zr 52), (1, zi (c : Int)), (2, zi h), (3, zi (n : Int)), (4, zi a), (5, zi (i : Int))], r.toList ++ [], m1) κ))
    (k3 : (i : Int) < (m 52 1) → ¬ (i : Int) = 0 → a < (m 53 i) → T (D + 1) 95 (0, [(0, zr 52), (1, zi (m 53 i)), (2, zi (c : Int))], [], m) (fun r m1 => T (D + 2) 94 (50, [(0, zr 52), (1, zi (c : Int)), (2, zi h), (3, zi (n : Int)), (4, zi a), (5, zi (i : Int))], r.toList ++ [], m1) κ))
    (k4 : (i : Int) < (m 52 1) → ¬ (i : Int) = 0 → ¬ a < (m 53 i) → ((m 53 i) + h) < a → T (D + 1) 95 (0, [(0, zr 52), (1, zi (m 53 i)), (2, zi (c : Int))], [], m) (fun r m1 => T (D + 2) 94 (50, [(0, zr 52), (1, zi (c : Int)), (2, zi h), (3, zi (n : Int)), (4, zi a), (5, zi (i : Int))], r.toList ++ [], m1) κ))
    (k5 : (i : Int) < (m 52 1) → ¬ (i : Int) = 0 → ¬ a < (m 53 i) → ¬ ((m 53 i) + h) < a → T (D + 2) 94 (8, [(0, zr 52), (1, zi (c : Int)), (2, zi h), (3, zi (n : Int)), (4, zi a), (5, zi ((i : Int) + 1))], [], m) κ) :
    T (D + 2) 94 (8, lo, [], m) κ := by
  have hb5 : 0 ≤ (m 52 1) ∧ (m 52 1) ≤ 60 := hB 52 1
  have hb6 : 0 ≤ (m 53 i) ∧ (m 53 i) ≤ 99 := hB 53 i
  have he0 : wr (i : Int) = (i : Int) := wr_id (by omega) (by omega)
  have he1 : wr (m 52 1) = (m 52 1) := wr_id (by omega) (by omega)
  have he2 : (i : Int).toNat = i := by omega
  have he3 : wr a = a := wr_id (by omega) (by omega)
  have he4 : wr (m 53 i) = (m 53 i) := wr_id (by omega) (by omega)
  have he5 : wr ((m 53 i) + h) = ((m 53 i) + h) := wr_id (by omega) (by omega)
  have he6 : wr (n : Int) = (n : Int) := wr_id (by omega) (by omega)
  have key := @zb94_8r T hT D κ m c h n a i lo hlo
  simp only [he0, he1, he2, he3, he4, he5, he6, Int.toNat_natCast] at key
  exact key
    k1
    (fun x0 x1 => by refine ⟨?_, ?_⟩ <;> omega)
    k2
    (fun x0 x1 => by refine ⟨?_, ?_⟩ <;> omega)
    (fun x0 x1 x2 => by refine ⟨?_, ?_⟩ <;> omega)
    k3
    (fun x0 x1 x2 x3 => by refine ⟨?_, ?_⟩ <;> omega)
    k4
    k5
theorem zb94_50r (hT : zRules T) {D : Nat} {κ : Option zA → zM → Prop} {m : zM} {c : Nat} {h : Int} {n : Nat} {i : Nat} {v : Int} {lo : zL} (hlo : z_keep [0, 1, 2, 3, 5] lo = [(0, zr 52), (1, zi (c : Int)), (2, zi h), (3, zi (n : Int)), (5, zi (i : Int))]) 
    (o1 : ¬ wr (i : Int) = 0 → T (D + 2) 94 (8, [(0, zr 52), (1, zi (c : Int)), (2, zi h), (3, zi ((n : Int) + 1)), (4, zi v), (5, zi ((i : Int) + 1))], [], m) κ)
    (o2 : wr (i : Int) = 0 → T (D + 2) 94 (8, [(0, zr 52), (1, zi (c : Int)), (2, zi h), (3, zi ((n : Int) + 0)), (4, zi v), (5, zi ((i : Int) + 1))], [], m) κ) :
    T (D + 2) 94 (50, lo, [zi v], m) κ :=
  zkeep hT hlo (hT.1 [(8, [0, 1, 2, 3, 4, 5])] 6 (D + 2) 94 _ κ (And.intro (fun a1 => (hT.1 [(8, [0, 1, 2, 3, 4, 5])] 6 (D + 2) 94 (64, [(0, zr 52), (1, zi (c : Int)), (2, zi h), (3, zi (n : Int)), (4, zi v), (5, zi (i : Int))], [zi ((n : Int) + 1)], m) _ (o1 a1))) (fun a2 => (hT.1 [(8, [0, 1, 2, 3, 4, 5])] 6 (D + 2) 94 (63, [(0, zr 52), (1, zi (c : Int)), (2, zi h), (3, zi (n : Int)), (4, zi v), (5, zi (i : Int))], [zi 0, zi (n : Int)], m) _ (o2 (Classical.byContradiction a2))))))
theorem zb94_50 (hT : zRules T) {D : Nat} {κ : Option zA → zM → Prop} {m : zM} {c : Nat} {h : Int} {n : Nat} {i : Nat} {v : Int} {lo : zL} (hlo : z_keep [0, 1, 2, 3, 5] lo = [(0, zr 52), (1, zi (c : Int)), (2, zi h), (3, zi (n : Int)), (5, zi (i : Int))])  (hB : zB m) (h_c : c ≤ 26) (h_h : 0 ≤ h ∧ h ≤ 9) (h_n : n ≤ 60) (h_i : i ≤ 60) (h_v : (-2147483648) ≤ v ∧ v ≤ 2147483647) 
    (k1 : ¬ (i : Int) = 0 → T (D + 2) 94 (8, [(0, zr 52), (1, zi (c : Int)), (2, zi h), (3, zi ((n : Int) + 1)), (4, zi v), (5, zi ((i : Int) + 1))], [], m) κ)
    (k2 : (i : Int) = 0 → T (D + 2) 94 (8, [(0, zr 52), (1, zi (c : Int)), (2, zi h), (3, zi ((n : Int) + 0)), (4, zi v), (5, zi ((i : Int) + 1))], [], m) κ) :
    T (D + 2) 94 (50, lo, [zi v], m) κ := by
  have he0 : wr (i : Int) = (i : Int) := wr_id (by omega) (by omega)
  have key := @zb94_50r T hT D κ m c h n i v lo hlo
  simp only [he0, Int.toNat_natCast] at key
  exact key
    k1
    k2
theorem zb95_0r (hT : zRules T) {D : Nat} {κ : Option zA → zM → Prop} {m : zM} {v : Int} {c : Nat} 
    (o1 : T (D + 1) 95 (2, [(0, zr 52), (1, zi v), (2, zi (c : Int)), (3, zi 0)], [], m) κ) :
    T (D + 1) 95 (0, [(0, zr 52), (1, zi v), (2, zi (c : Int))], [], m) κ :=
  hT.1 [(2, [0, 1, 2, 3])] 6 (D + 1) 95 _ κ (o1)
theorem zb95_0 (hT : zRules T) {D : Nat} {κ : Option zA → zM → Prop} {m : zM} {v : Int} {c : Nat}  (hB : zB m) (h_v : 0 ≤ v ∧ v ≤ 99) (h_c : c ≤ 26) 
    (k1 : T (D + 1) 95 (2, [(0, zr 52), (1, zi v), (2, zi (c : Int)), (3, zi 0)], [], m) κ) :
    T (D + 1) 95 (0, [(0, zr 52), (1, zi v), (2, zi (c : Int))], [], m) κ := by
  exact zb95_0r hT
    k1
theorem zb95_2r (hT : zRules T) {D : Nat} {κ : Option zA → zM → Prop} {m : zM} {v : Int} {c : Nat} {i : Nat} {lo : zL} (hlo : z_keep [0, 1, 2, 3] lo = [(0, zr 52), (1, zi v), (2, zi (c : Int)), (3, zi (i : Int))]) 
    (o1 : ¬ wr (i : Int) < wr (c : Int) → κ (some (zi (-1))) m)
    (o2 : wr (i : Int) < wr (c : Int) → ¬ wr (i : Int) < 26 → False)
    (o3 : wr (i : Int) < wr (c : Int) → wr (i : Int) < 26 → (0 ≤ wr (i : Int) ∧ wr (i : Int) < 26))
    (o4 : wr (i : Int) < wr (c : Int) → wr (i : Int) < 26 → wr (m 58 ((wr (i : Int)).toNat)) < wr v → T (D + 1) 95 (2, [(0, zr 52), (1, zi v), (2, zi (c : Int)), (3, zi ((i : Int) + 1))], [], m) κ)
    (o5 : wr (i : Int) < wr (c : Int) → wr (i : Int) < 26 → ¬ wr (m 58 ((wr (i : Int)).toNat)) < wr v → (0 ≤ wr (i : Int) ∧ wr (i : Int) < 26))
    (o6 : wr (i : Int) < wr (c : Int) → wr (i : Int) < 26 → ¬ wr (m 58 ((wr (i : Int)).toNat)) < wr v → κ (some (zi (wr (m 58 ((wr (i : Int)).toNat))))) m) :
    T (D + 1) 95 (2, lo, [], m) κ :=
  zkeep hT hlo (hT.1 [(2, [0, 1, 2, 3])] 6 (D + 1) 95 _ κ (And.intro (fun a1 => (o1 a1)) (fun a2 => (hT.1 [(2, [0, 1, 2, 3])] 6 (D + 1) 95 (12, [(0, zr 52), (1, zi v), (2, zi (c : Int)), (3, zi (i : Int))], [zr 58, zi (i : Int)], m) _ (And.intro (fun a3 => (o2 (Classical.byContradiction a2) a3).elim) (fun a4 => (And.intro (o3 (Classical.byContradiction a2) (Classical.byContradiction a4)) (hT.1 [(2, [0, 1, 2, 3])] 6 (D + 1) 95 (22, [(0, zr 52), (1, zi v), (2, zi (c : Int)), (3, zi (i : Int))], [zi (m 58 ((wr (i : Int)).toNat))], m) _ (And.intro (fun a5 => (o4 (Classical.byContradiction a2) (Classical.byContradiction a4) a5)) (fun a6 => (And.intro (o5 (Classical.byContradiction a2) (Classical.byContradiction a4) a6) (hT.1 [(2, [0, 1, 2, 3])] 6 (D + 1) 95 (32, [(0, zr 52), (1, zi v), (2, zi (c : Int)), (3, zi (i : Int))], [zi (m 58 ((wr (i : Int)).toNat))], m) _ (o6 (Classical.byContradiction a2) (Classical.byContradiction a4) a6)))))))))))))
theorem zb95_2 (hT : zRules T) {D : Nat} {κ : Option zA → zM → Prop} {m : zM} {v : Int} {c : Nat} {i : Nat} {lo : zL} (hlo : z_keep [0, 1, 2, 3] lo = [(0, zr 52), (1, zi v), (2, zi (c : Int)), (3, zi (i : Int))])  (hB : zB m) (h_v : 0 ≤ v ∧ v ≤ 99) (h_c : c ≤ 26) (h_i : i ≤ 26) 
    (k1 : ¬ (i : Int) < (c : Int) → κ (some (zi (-1))) m)
    (k2 : (i : Int) < (c : Int) → wr (m 58 i) < v → T (D + 1) 95 (2, [(0, zr 52), (1, zi v), (2, zi (c : Int)), (3, zi ((i : Int) + 1))], [], m) κ)
    (k3 : (i : Int) < (c : Int) → ¬ wr (m 58 i) < v → κ (some (zi (wr (m 58 i)))) m) :
    T (D + 1) 95 (2, lo, [], m) κ := by
  have hb3 : (-2147483648) ≤ wr (m 58 i) ∧ wr (m 58 i) ≤ 2147483647 := wrB (m 58 i)
  have he0 : wr (i : Int) = (i : Int) := wr_id (by omega) (by omega)
  have he1 : wr (c : Int) = (c : Int) := wr_id (by omega) (by omega)
  have he2 : (i : Int).toNat = i := by omega
  have he3 : wr v = v := wr_id (by omega) (by omega)
  have key := @zb95_2r T hT D κ m v c i lo hlo
  simp only [he0, he1, he2, he3, Int.toNat_natCast] at key
  exact key
    k1
    (fun x0 x1 => by omega)
    (fun x0 x1 => by refine ⟨?_, ?_⟩ <;> omega)
    (fun x0 x1 x2 => k2 x0 x2)
    (fun x0 x1 x2 => by refine ⟨?_, ?_⟩ <;> omega)
    (fun x0 x1 x2 => k3 x0 x2)
theorem zb272_0r (hT : zRules T) {D : Nat} {κ : Option zA → zM → Prop} {m : zM} {p : Int} 
    (o1 : T (D + 5) 267 (0, [(0, zr 74), (1, zi p)], [], (zu m 74 12 0)) (fun r m1 => T (D + 6) 272 (10, [(0, zr 74), (1, zi p)], r.toList ++ [], m1) κ)) :
    T (D + 6) 272 (0, [(0, zr 74), (1, zi p)], [], m) κ :=
  hT.1 [(28, [0, 3, 4, 5]), (61, [0, 4, 5, 6, 7]), (98, [0, 4, 5, 7, 8])] 6 (D + 6) 272 _ κ (And.intro trivial (o1))
theorem zb272_0 (hT : zRules T) {D : Nat} {κ : Option zA → zM → Prop} {m : zM} {p : Int}  (hB : zB m) (h_p : (-2147483648) ≤ p ∧ p ≤ 2147483647) 
    (k1 : zB (zu m 74 12 0) → T (D + 5) 267 (0, [(0, zr 74), (1, zi p)], [], (zu m 74 12 0)) (fun r m1 => T (D + 6) 272 (10, [(0, zr 74), (1, zi p)], r.toList ++ [], m1) κ)) :
    T (D + 6) 272 (0, [(0, zr 74), (1, zi p)], [], m) κ := by
  exact zb272_0r hT
    (k1  (zB_u hB trivial))
theorem zb272_10r (hT : zRules T) {D : Nat} {κ : Option zA → zM → Prop} {m : zM} {v : Int} {lo : zL} (hlo : z_keep [0] lo = [(0, zr 74)]) 
    (o1 : ¬ wr v < 0 → T (D + 5) 270 (0, [(0, zr 74)], [], m) (fun r m1 => T (D + 6) 272 (21, [(0, zr 74), (2, zi v)], r.toList ++ [], m1) κ))
    (o2 : wr v < 0 → κ (some (zi (wr v))) m) :
    T (D + 6) 272 (10, lo, [zi v], m) κ :=
  zkeep hT hlo (hT.1 [(28, [0, 3, 4, 5]), (61, [0, 4, 5, 6, 7]), (98, [0, 4, 5, 7, 8])] 6 (D + 6) 272 _ κ (And.intro (fun a1 => (o1 a1)) (fun a2 => (o2 (Classical.byContradiction a2)))))
theorem zb272_10 (hT : zRules T) {D : Nat} {κ : Option zA → zM → Prop} {m : zM} {v : Int} {lo : zL} (hlo : z_keep [0] lo = [(0, zr 74)])  (hB : zB m) (h_v : (-2147483648) ≤ v ∧ v ≤ 2147483647) 
    (k1 : ¬ v < 0 → T (D + 5) 270 (0, [(0, zr 74)], [], m) (fun r m1 => T (D + 6) 272 (21, [(0, zr 74), (2, zi v)], r.toList ++ [], m1) κ))
    (k2 : v < 0 → κ (some (zi v)) m) :
    T (D + 6) 272 (10, lo, [zi v], m) κ := by
  have he0 : wr v = v := wr_id (by omega) (by omega)
  have key := @zb272_10r T hT D κ m v lo hlo
  simp only [he0, Int.toNat_natCast] at key
  exact key
    k1
    k2
theorem zb272_21r (hT : zRules T) {D : Nat} {κ : Option zA → zM → Prop} {m : zM} {c : Nat} {lo : zL} (hlo : z_keep [0] lo = [(0, zr 74)]) 
    (o1 : T (D + 6) 272 (28, [(0, zr 74), (3, zi (c : Int)), (4, zi 0), (5, zi 0)], [], m) κ) :
    T (D + 6) 272 (21, lo, [zi (c : Int)], m) κ :=
  zkeep hT hlo (hT.1 [(28, [0, 3, 4, 5]), (61, [0, 4, 5, 6, 7]), (98, [0, 4, 5, 7, 8])] 6 (D + 6) 272 _ κ (o1))
theorem zb272_21 (hT : zRules T) {D : Nat} {κ : Option zA → zM → Prop} {m : zM} {c : Nat} {lo : zL} (hlo : z_keep [0] lo = [(0, zr 74)])  (hB : zB m) (h_c : c ≤ 26) 
    (k1 : T (D + 6) 272 (28, [(0, zr 74), (3, zi (c : Int)), (4, zi 0), (5, zi 0)], [], m) κ) :
    T (D + 6) 272 (21, lo, [zi (c : Int)], m) κ := by
  exact zb272_21r hT hlo
    k1
theorem zb272_28r (hT : zRules T) {D : Nat} {κ : Option zA → zM → Prop} {m : zM} {c : Nat} {s : Int} {i : Nat} {lo : zL} (hlo : z_keep [0, 3, 4, 5] lo = [(0, zr 74), (3, zi (c : Int)), (4, zi s), (5, zi (i : Int))]) 
    (o1 : ¬ wr (i : Int) < wr (c : Int) → T (D + 6) 272 (61, [(0, zr 74), (4, zi s), (5, zi (-1)), (6, zi (-1)), (7, zi 0)], [], m) κ)
    (o2 : wr (i : Int) < wr (c : Int) → (0 ≤ wr (i : Int) ∧ wr (i : Int) < 26))
    (o3 : wr (i : Int) < wr (c : Int) → T (D + 6) 272 (28, [(0, zr 74), (3, zi (c : Int)), (4, zi (s + (m 98 ((wr (i : Int)).toNat)))), (5, zi ((i : Int) + 1))], [], m) κ) :
    T (D + 6) 272 (28, lo, [], m) κ :=
  zkeep hT hlo (hT.1 [(28, [0, 3, 4, 5]), (61, [0, 4, 5, 6, 7]), (98, [0, 4, 5, 7, 8])] 6 (D + 6) 272 _ κ (And.intro (fun a1 => (hT.1 [(28, [0, 3, 4, 5]), (61, [0, 4, 5, 6, 7]), (98, [0, 4, 5, 7, 8])] 6 (D + 6) 272 (56, [(0, zr 74), (3, zi (c : Int)), (4, zi s), (5, zi (-1))], [zi (-1)], m) _ (o1 a1))) (fun a2 => (hT.1 [(28, [0, 3, 4, 5]), (61, [0, 4, 5, 6, 7]), (98, [0, 4, 5, 7, 8])] 6 (D + 6) 272 (40, [(0, zr 74), (3, zi (c : Int)), (4, zi s), (5, zi (i : Int))], [zr 98, zi s], m) _ (And.intro (o2 (Classical.byContradiction a2)) (o3 (Classical.byContradiction a2)))))))
theorem zb272_28 (hT : zRules T) {D : Nat} {κ : Option zA → zM → Prop} {m : zM} {c : Nat} {s : Int} {i : Nat} {lo : zL} (hlo : z_keep [0, 3, 4, 5] lo = [(0, zr 74), (3, zi (c : Int)), (4, zi s), (5, zi (i : Int))])  (hB : zB m) (h_c : c ≤ 26) (h_i : i ≤ 26) 
    (k1 : ¬ (i : Int) < (c : Int) → T (D + 6) 272 (61, [(0, zr 74), (4, zi s), (5, zi (-1)), (6, zi (-1)), (7, zi 0)], [], m) κ)
    (k2 : (i : Int) < (c : Int) → T (D + 6) 272 (28, [(0, zr 74), (3, zi (c : Int)), (4, zi (s + (m 98 i))), (5, zi ((i : Int) + 1))], [], m) κ) :
    T (D + 6) 272 (28, lo, [], m) κ := by
  have he0 : wr (i : Int) = (i : Int) := wr_id (by omega) (by omega)
  have he1 : wr (c : Int) = (c : Int) := wr_id (by omega) (by omega)
  have he2 : (i : Int).toNat = i := by omega
  have key := @zb272_28r T hT D κ m c s i lo hlo
  simp only [he0, he1, he2, Int.toNat_natCast] at key
  exact key
    k1
    (fun x0 => by refine ⟨?_, ?_⟩ <;> omega)
    k2
theorem zb272_61r (hT : zRules T) {D : Nat} {κ : Option zA → zM → Prop} {m : zM} {s : Int} {n : Int} {o : Int} {k : Nat} {lo : zL} (hlo : z_keep [0, 4, 5, 6, 7] lo = [(0, zr 74), (4, zi s), (5, zi n), (6, zi o), (7, zi (k : Int))]) 
    (o1 : ¬ wr (k : Int) < wr (m 74 49) → κ (some (zi (wr s))) (zu (zu (zu m 74 11 0) 81 0 n) 74 11 1))
    (o2 : wr (k : Int) < wr (m 74 49) → wr o = (-1) → T (D + 6) 272 (98, [(0, zr 74), (4, zi s), (5, zi n), (7, zi (k : Int)), (8, zi 0)], [], m) κ)
    (o3 : wr (k : Int) < wr (m 74 49) → ¬ wr o = (-1) → (0 ≤ wr (k : Int) ∧ wr (k : Int) < 26))
    (o4 : wr (k : Int) < wr (m 74 49) → ¬ wr o = (-1) → wr o < wr (m 97 ((wr (k : Int)).toNat)) → T (D + 6) 272 (98, [(0, zr 74), (4, zi s), (5, zi n), (7, zi (k : Int)), (8, zi 0)], [], m) κ)
    (o5 : wr (k : Int) < wr (m 74 49) → ¬ wr o = (-1) → ¬ wr o < wr (m 97 ((wr (k : Int)).toNat)) → wr ((m 97 ((wr (k : Int)).toNat)) + (m 79 0)) < wr o → T (D + 6) 272 (98, [(0, zr 74), (4, zi s), (5, zi n), (7, zi (k : Int)), (8, zi 0)], [], m) κ)
    (o6 : wr (k : Int) < wr (m 74 49) → ¬ wr o = (-1) → ¬ wr o < wr (m 97 ((wr (k : Int)).toNat)) → ¬ wr ((m 97 ((wr (k : Int)).toNat)) + (m 79 0)) < wr o → T (D + 6) 272 (61, [(0, zr 74), (4, zi s), (5, zi n), (6, zi o), (7, zi ((k : Int) + 1))], [], m) κ) :
    T (D + 6) 272 (61, lo, [], m) κ :=
  zkeep hT hlo (hT.1 [(28, [0, 3, 4, 5]), (61, [0, 4, 5, 6, 7]), (98, [0, 4, 5, 7, 8])] 6 (D + 6) 272 _ κ (And.intro (fun a1 => (hT.1 [(28, [0, 3, 4, 5]), (61, [0, 4, 5, 6, 7]), (98, [0, 4, 5, 7, 8])] 6 (D + 6) 272 (145, [(0, zr 74), (4, zi s), (5, zi n), (6, zi o), (7, zi (k : Int))], [zi 0, zr 74], m) _ (And.intro trivial (hT.1 [] 6 (D + 5) 189 _ _ (And.intro (And.intro (z_ixL rfl) trivial) (hT.1 [] 6 (D + 5) 189 (10, [(0, zr 74), (1, zi n)], [], (zu (zu m 74 11 0) 81 0 n)) _ (And.intro trivial (hT.1 [] 6 (D + 5) 189 (20, [(0, zr 74), (1, zi n)], [], (zu (zu (zu m 74 11 0) 81 0 n) 74 11 1)) _ (hT.1 [(28, [0, 3, 4, 5]), (61, [0, 4, 5, 6, 7]), (98, [0, 4, 5, 7, 8])] 6 (D + 6) 272 _ _ (o1 a1)))))))))) (fun a2 => (hT.1 [(28, [0, 3, 4, 5]), (61, [0, 4, 5, 6, 7]), (98, [0, 4, 5, 7, 8])] 6 (D + 6) 272 (73, [(0, zr 74), (4, zi s), (5, zi n), (6, zi o), (7, zi (k : Int))], [zi (-1), zi o], m) _ (And.intro (fun a3 => (o2 (Classical.byContradiction a2) a3)) (fun a4 => (hT.1 [(28, [0, 3, 4, 5]), (61, [0, 4, 5, 6, 7]), (98, [0, 4, 5, 7, 8])] 6 (D + 6) 272 (85, [(0, zr 74), (4, zi s), (5, zi n), (6, zi o), (7, zi (k : Int))], [zi (k : Int), zr 97, zi o, zr 74], m) _ (And.intro (o3 (Classical.byContradiction a2) a4) (hT.1 [] 6 (D + 5) 252 _ _ (hT.1 [] 6 (D + 5) 252 (8, [(0, zr 74), (1, zi o), (2, zi (m 97 ((wr (k : Int)).toNat)))], [zi 0, zr 79, zi (m 97 ((wr (k : Int)).toNat)), zi (m 97 ((wr (k : Int)).toNat)), zi o], m) _ (And.intro (z_ixL rfl) (hT.1 [] 6 (D + 4) 186 _ _ (And.intro (fun a5 => (And.intro (z_b01L rfl) (hT.1 [] 6 (D + 5) 252 _ _ (And.intro (z_b01L rfl) (hT.1 [(28, [0, 3, 4, 5]), (61, [0, 4, 5, 6, 7]), (98, [0, 4, 5, 7, 8])] 6 (D + 6) 272 _ _ (And.intro (fun _ => (o4 (Classical.byContradiction a2) a4 a5)) (fun a7 => (a7 (z_litT rfl)).elim))))))) (fun a6 => (And.intro (fun a8 => (hT.1 [] 6 (D + 4) 186 (14, [(0, zi o), (1, zi (m 97 ((wr (k : Int)).toNat))), (2, zi ((m 97 ((wr (k : Int)).toNat)) + (m 79 0)))], [], m) _ (And.intro (z_b01L rfl) (hT.1 [] 6 (D + 5) 252 _ _ (And.intro (z_b01L rfl) (hT.1 [(28, [0, 3, 4, 5]), (61, [0, 4, 5, 6, 7]), (98, [0, 4, 5, 7, 8])] 6 (D + 6) 272 _ _ (And.intro (fun _ => (o5 (Classical.byContradiction a2) a4 a6 a8)) (fun a10 => (a10 (z_litT rfl)).elim)))))))) (fun a9 => (hT.1 [] 6 (D + 4) 186 (10, [(0, zi o), (1, zi (m 97 ((wr (k : Int)).toNat))), (2, zi ((m 97 ((wr (k : Int)).toNat)) + (m 79 0)))], [], m) _ (And.intro (z_b01L rfl) (hT.1 [] 6 (D + 5) 252 _ _ (And.intro (z_b01L rfl) (hT.1 [(28, [0, 3, 4, 5]), (61, [0, 4, 5, 6, 7]), (98, [0, 4, 5, 7, 8])] 6 (D + 6) 272 _ _ (And.intro (fun a11 => (z_litF a11 rfl).elim) (fun _ => (o6 (Classical.byContradiction a2) a4 a6 a9))))))))))))))))))))))))
theorem zb272_61 (hT : zRules T) {D : Nat} {κ : Option zA → zM → Prop} {m : zM} {s : Int} {n : Int} {o : Int} {k : Nat} {lo : zL} (hlo : z_keep [0, 4, 5, 6, 7] lo = [(0, zr 74), (4, zi s), (5, zi n), (6, zi o), (7, zi (k : Int))])  (hB : zB m) (h_n : (-1) ≤ n ∧ n ≤ 26) (h_k : k ≤ 26) 
    (k1 : ¬ (k : Int) < (m 74 49) → zB (zu (zu (zu m 74 11 0) 81 0 n) 74 11 1) → κ (some (zi (wr s))) (zu (zu (zu m 74 11 0) 81 0 n) 74 11 1))
    (k2 : (k : Int) < (m 74 49) → wr o = (-1) → T (D + 6) 272 (98, [(0, zr 74), (4, zi s), (5, zi n), (7, zi (k : Int)), (8, zi 0)], [], m) κ)
    (k3 : (k : Int) < (m 74 49) → ¬ wr o = (-1) → wr o < (m 97 k) → T (D + 6) 272 (98, [(0, zr 74), (4, zi s), (5, zi n), (7, zi (k : Int)), (8, zi 0)], [], m) κ)
    (k4 : (k : Int) < (m 74 49) → ¬ wr o = (-1) → ¬ wr o < (m 97 k) → ((m 97 k) + (m 79 0)) < wr o → T (D + 6) 272 (98, [(0, zr 74), (4, zi s), (5, zi n), (7, zi (k : Int)), (8, zi 0)], [], m) κ)
    (k5 : (k : Int) < (m 74 49) → ¬ wr o = (-1) → ¬ wr o < (m 97 k) → ¬ ((m 97 k) + (m 79 0)) < wr o → T (D + 6) 272 (61, [(0, zr 74), (4, zi s), (5, zi n), (6, zi o), (7, zi ((k : Int) + 1))], [], m) κ) :
    T (D + 6) 272 (61, lo, [], m) κ := by
  have hb2 : 0 ≤ (m 74 49) ∧ (m 74 49) ≤ 26 := hB 74 49
  have hb3 : (-2147483648) ≤ wr o ∧ wr o ≤ 2147483647 := wrB o
  have hb4 : 0 ≤ (m 97 k) ∧ (m 97 k) ≤ 99 := hB 97 k
  have hb5 : 0 ≤ (m 79 0) ∧ (m 79 0) ≤ 9 := hB 79 0
  have hb6 : (-2147483648) ≤ wr s ∧ wr s ≤ 2147483647 := wrB s
  have he0 : wr (k : Int) = (k : Int) := wr_id (by omega) (by omega)
  have he1 : wr (m 74 49) = (m 74 49) := wr_id (by omega) (by omega)
  have he2 : (k : Int).toNat = k := by omega
  have he3 : wr (m 97 k) = (m 97 k) := wr_id (by omega) (by omega)
  have he4 : wr ((m 97 k) + (m 79 0)) = ((m 97 k) + (m 79 0)) := wr_id (by omega) (by omega)
  have key := @zb272_61r T hT D κ m s n o k lo hlo
  simp only [he0, he1, he2, he3, he4, Int.toNat_natCast] at key
  exact key
    (fun x0 => k1 x0 (zB_u (zB_u (zB_u hB (show 0 ≤ 0 ∧ 0 ≤ 32 from ⟨by omega, by omega⟩)) trivial) (show 0 ≤ 1 ∧ 1 ≤ 32 from ⟨by omega, by omega⟩)))
    k2
    (fun x0 x1 => by refine ⟨?_, ?_⟩ <;> omega)
    k3
    k4
    k5
theorem zb272_98r (hT : zRules T) {D : Nat} {κ : Option zA → zM → Prop} {m : zM} {s : Int} {n : Int} {k : Nat} {i : Nat} {lo : zL} (hlo : z_keep [0, 4, 5, 7, 8] lo = [(0, zr 74), (4, zi s), (5, zi n), (7, zi (k : Int)), (8, zi (i : Int))]) 
    (o1 : (0 ≤ wr (i : Int) ∧ wr (i : Int) < 26))
    (o2 : (0 ≤ wr (k : Int) ∧ wr (k : Int) < 26))
    (o3 : wr (m 98 ((wr (i : Int)).toNat)) < wr (m 97 ((wr (k : Int)).toNat)) → T (D + 6) 272 (98, [(0, zr 74), (4, zi s), (5, zi n), (7, zi (k : Int)), (8, zi ((i : Int) + 1))], [], m) κ)
    (o4 : ¬ wr (m 98 ((wr (i : Int)).toNat)) < wr (m 97 ((wr (k : Int)).toNat)) → wr ((m 97 ((wr (k : Int)).toNat)) + (m 79 0)) < wr (m 98 ((wr (i : Int)).toNat)) → T (D + 6) 272 (98, [(0, zr 74), (4, zi s), (5, zi n), (7, zi (k : Int)), (8, zi ((i : Int) + 1))], [], m) κ)
    (o5 : ¬ wr (m 98 ((wr (i : Int)).toNat)) < wr (m 97 ((wr (k : Int)).toNat)) → ¬ wr ((m 97 ((wr (k : Int)).toNat)) + (m 79 0)) < wr (m 98 ((wr (i : Int)).toNat)) → (0 ≤ wr (i : Int) ∧ wr (i : Int) < 26))
    (o6 : ¬ wr (m 98 ((wr (i : Int)).toNat)) < wr (m 97 ((wr (k : Int)).toNat)) → ¬ wr ((m 97 ((wr (k : Int)).toNat)) + (m 79 0)) < wr (m 98 ((wr (i : Int)).toNat)) → T (D + 6) 272 (61, [(0, zr 74), (4, zi s), (5, zi (n + 1)), (6, zi (m 98 ((wr (i : Int)).toNat))), (7, zi ((k : Int) + 1))], [], m) κ) :
    T (D + 6) 272 (98, lo, [], m) κ :=
  zkeep hT hlo (hT.1 [(28, [0, 3, 4, 5]), (61, [0, 4, 5, 6, 7]), (98, [0, 4, 5, 7, 8])] 6 (D + 6) 272 _ κ (And.intro (o1) (hT.1 [(28, [0, 3, 4, 5]), (61, [0, 4, 5, 6, 7]), (98, [0, 4, 5, 7, 8])] 6 (D + 6) 272 (107, [(0, zr 74), (4, zi s), (5, zi n), (7, zi (k : Int)), (8, zi (i : Int))], [zr 74, zi (m 98 ((wr (i : Int)).toNat)), zr 74], m) _ (And.intro (o2) (hT.1 [] 6 (D + 5) 252 _ _ (hT.1 [] 6 (D + 5) 252 (8, [(0, zr 74), (1, zi (m 98 ((wr (i : Int)).toNat))), (2, zi (m 97 ((wr (k : Int)).toNat)))], [zi 0, zr 79, zi (m 97 ((wr (k : Int)).toNat)), zi (m 97 ((wr (k : Int)).toNat)), zi (m 98 ((wr (i : Int)).toNat))], m) _ (And.intro (z_ixL rfl) (hT.1 [] 6 (D + 4) 186 _ _ (And.intro (fun a1 => (And.intro (z_b01L rfl) (hT.1 [] 6 (D + 5) 252 _ _ (And.intro (z_b01L rfl) (hT.1 [(28, [0, 3, 4, 5]), (61, [0, 4, 5, 6, 7]), (98, [0, 4, 5, 7, 8])] 6 (D + 6) 272 _ _ (And.intro (fun a3 => (z_litF a3 rfl).elim) (fun _ => (o3 a1)))))))) (fun a2 => (And.intro (fun a4 => (hT.1 [] 6 (D + 4) 186 (14, [(0, zi (m 98 ((wr (i : Int)).toNat))), (1, zi (m 97 ((wr (k : Int)).toNat))), (2, zi ((m 97 ((wr (k : Int)).toNat)) + (m 79 0)))], [], m) _ (And.intro (z_b01L rfl) (hT.1 [] 6 (D + 5) 252 _ _ (And.intro (z_b01L rfl) (hT.1 [(28, [0, 3, 4, 5]), (61, [0, 4, 5, 6, 7]), (98, [0, 4, 5, 7, 8])] 6 (D + 6) 272 _ _ (And.intro (fun a6 => (z_litF a6 rfl).elim) (fun _ => (o4 a2 a4))))))))) (fun a5 => (hT.1 [] 6 (D + 4) 186 (10, [(0, zi (m 98 ((wr (i : Int)).toNat))), (1, zi (m 97 ((wr (k : Int)).toNat))), (2, zi ((m 97 ((wr (k : Int)).toNat)) + (m 79 0)))], [], m) _ (And.intro (z_b01L rfl) (hT.1 [] 6 (D + 5) 252 _ _ (And.intro (z_b01L rfl) (hT.1 [(28, [0, 3, 4, 5]), (61, [0, 4, 5, 6, 7]), (98, [0, 4, 5, 7, 8])] 6 (D + 6) 272 _ _ (And.intro (fun _ => (And.intro (o5 a2 a5) (hT.1 [(28, [0, 3, 4, 5]), (61, [0, 4, 5, 6, 7]), (98, [0, 4, 5, 7, 8])] 6 (D + 6) 272 (134, [(0, zr 74), (4, zi s), (5, zi n), (6, zi (m 98 ((wr (i : Int)).toNat))), (7, zi (k : Int)), (8, zi (i : Int))], [], m) _ (o6 a2 a5)))) (fun a7 => (a7 (z_litT rfl)).elim)))))))))))))))))))
theorem zb272_98 (hT : zRules T) {D : Nat} {κ : Option zA → zM → Prop} {m : zM} {s : Int} {n : Int} {k : Nat} {i : Nat} {lo : zL} (hlo : z_keep [0, 4, 5, 7, 8] lo = [(0, zr 74), (4, zi s), (5, zi n), (7, zi (k : Int)), (8, zi (i : Int))])  (hB : zB m) (h_n : (-1) ≤ n ∧ n ≤ 26) (h_k : k ≤ 25) (h_i : i ≤ 25) 
    (k1 : wr (m 98 i) < (m 97 k) → T (D + 6) 272 (98, [(0, zr 74), (4, zi s), (5, zi n), (7, zi (k : Int)), (8, zi ((i : Int) + 1))], [], m) κ)
    (k2 : ¬ wr (m 98 i) < (m 97 k) → ((m 97 k) + (m 79 0)) < wr (m 98 i) → T (D + 6) 272 (98, [(0, zr 74), (4, zi s), (5, zi n), (7, zi (k : Int)), (8, zi ((i : Int) + 1))], [], m) κ)
    (k3 : ¬ wr (m 98 i) < (m 97 k) → ¬ ((m 97 k) + (m 79 0)) < wr (m 98 i) → T (D + 6) 272 (61, [(0, zr 74), (4, zi s), (5, zi (n + 1)), (6, zi (m 98 i)), (7, zi ((k : Int) + 1))], [], m) κ) :
    T (D + 6) 272 (98, lo, [], m) κ := by
  have hb3 : 0 ≤ (m 97 k) ∧ (m 97 k) ≤ 99 := hB 97 k
  have hb4 : 0 ≤ (m 79 0) ∧ (m 79 0) ≤ 9 := hB 79 0
  have hb5 : (-2147483648) ≤ wr (m 98 i) ∧ wr (m 98 i) ≤ 2147483647 := wrB (m 98 i)
  have he0 : wr (i : Int) = (i : Int) := wr_id (by omega) (by omega)
  have he1 : (i : Int).toNat = i := by omega
  have he2 : wr (k : Int) = (k : Int) := wr_id (by omega) (by omega)
  have he3 : (k : Int).toNat = k := by omega
  have he4 : wr (m 97 k) = (m 97 k) := wr_id (by omega) (by omega)
  have he5 : wr ((m 97 k) + (m 79 0)) = ((m 97 k) + (m 79 0)) := wr_id (by omega) (by omega)
  have key := @zb272_98r T hT D κ m s n k i lo hlo
  simp only [he0, he1, he2, he3, he4, he5, Int.toNat_natCast] at key
  exact key
    (by refine ⟨?_, ?_⟩ <;> omega)
    (by refine ⟨?_, ?_⟩ <;> omega)
    k1
    k2
    (fun x0 x1 => by refine ⟨?_, ?_⟩ <;> omega)
    k3
end ZBlocks
end
-- 9w.trunk.lean.txt
section
/-! trunk(): it ends, and leaves what matters. -/
section ZTrunk
variable {T : Nat → Nat → zG → (Option zA → zM → Prop) → Prop} {B : Int}
theorem z_changes0 (hT : zRules T) {D : Nat} {κ : Option zA → zM → Prop} {m : zM} {c : Nat} {h : Int} (hB : zB m) (hc : c ≤ 26) (hh : 0 ≤ h ∧ h ≤ 9) (hk : ∀ v : Int, isI v → κ (some (zi v)) m) : T (D + 2) 94 (0, [(0, zr 52), (1, zi (c : Int)), (2, zi h)], [], m) κ := by
  have b52 : 0 ≤ m 52 1 ∧ m 52 1 ≤ 60 := hB 52 1
  have sf : ∀ (κ2 : Option zA → zM → Prop) (v : Int), (0 ≤ v ∧ v ≤ 99) → (∀ r : Int, isI r → κ2 (some (zi r)) m) → T (D + 1) 95 (0, [(0, zr 52), (1, zi v), (2, zi (c : Int))], [], m) κ2 := by
    intro κ2 v hv hk2
    have loop : ∀ (j i : Nat), i + j = c → T (D + 1) 95 (2, [(0, zr 52), (1, zi v), (2, zi (c : Int)), (3, zi (i : Int))], [], m) κ2 := by
      intro j
      induction j with
      | zero =>
        intro i hi
        exact zb95_2 hT rfl hB hv hc (by omega) (fun _ => hk2 (-1) (by unfold isI; omega)) (fun q => by omega) (fun q => by omega)
      | succ j ih =>
        intro i hi
        exact zb95_2 hT rfl hB hv hc (by omega) (fun q => by omega) (fun _ _ => ih (i + 1) (by omega)) (fun _ _ => hk2 _ (wrB _))
    exact zb95_0 hT hB hv hc (loop c 0 (by omega))
  have loop : ∀ (j i n : Nat) (a : Int), i + j = 60 → n ≤ i → isI a → T (D + 2) 94 (8, [(0, zr 52), (1, zi (c : Int)), (2, zi h), (3, zi (n : Int)), (4, zi a), (5, zi (i : Int))], [], m) κ := by
    intro j
    induction j with
    | zero =>
      intro i n a hi hn ha
      have rn : isI (n : Int) := by unfold isI; omega
      exact zb94_8 hT rfl hB hc hh (by omega) ha (by omega) (fun _ => hk n rn) (fun q => by omega) (fun q => by omega) (fun q => by omega) (fun q => by omega)
    | succ j ih =>
      intro i n a hi hn ha
      have rn : isI (n : Int) := by unfold isI; omega
      have b53 : 0 ≤ m 53 i ∧ m 53 i ≤ 99 := hB 53 i
      have go : T (D + 1) 95 (0, [(0, zr 52), (1, zi (m 53 i)), (2, zi (c : Int))], [], m) (fun r m1 => T (D + 2) 94 (50, [(0, zr 52), (1, zi (c : Int)), (2, zi h), (3, zi (n : Int)), (4, zi a), (5, zi (i : Int))], r.toList ++ [], m1) κ) := by
        refine sf _ _ b53 (fun r hr => ?_)
        refine zb94_50 hT rfl hB hc hh (by omega) (by omega) hr (fun _ => ?_) (fun _ => ?_)
        · exact ih (i + 1) (n + 1) r (by omega) (by omega) hr
        · rw [Int.add_zero]
          exact ih (i + 1) n r (by omega) (by omega) hr
      exact zb94_8 hT rfl hB hc hh (by omega) ha (by omega) (fun _ => hk n rn) (fun _ _ => go) (fun _ _ _ => go) (fun _ _ _ _ => go) (fun _ _ _ _ => ih (i + 1) n a (by omega) (by omega) ha)
  exact zb94_0 hT hB hc hh (loop 60 0 0 (-1) (by omega) (by omega) (by unfold isI; omega))
theorem w_trunk0 (hT : zRules T) {v : Int} (hv : isI v) : Way T 147 272 [(0, zr 1), (1, zi v)] [(0, zr 74), (1, zi v)] 7 172 B B False := by
  rintro D m sc ⟨n, k, hI⟩ κ hκ
  have hI0 := hI
  have i1 := hI.1
  have b17 : 0 ≤ m 17 0 ∧ m 17 0 ≤ 6 := i1 17 0
  obtain ⟨n1, n2⟩ := hI.2.2.2.1.1
  have ref : ∀ (r : Option zA) (M0 : zM), zB M0 → Agree noT m M0 → M0 2 1 = 0 → κ r M0 := by
    intro r M0 hB0 hA0 e21
    refine hκ _ _ (fun D2 κ2 h2 => ?_)
    have fin : ∀ r2 M1, zB M1 → Agree noT m M1 → M1 2 1 = 0 → M1 74 9 = 0 → κ2 r2 M1 := fun r2 M1 hB1 hA1 f1 f2 => h2 _ _ (fun x => x.elim) ⟨n, k, Inv_nt hI0 hB1 hA1 f1 f2⟩
    refine zb272_0 (D := D2 + 166) hT hB0 hv (fun hz => ?_)
    have hA1 : Agree noT m (zu M0 74 12 0) := hA0.trans (.of (L := [(74, some 12)]) (zFr.refl.set rfl) rfl)
    have e21b : (zu M0 74 12 0) 2 1 = 0 := by rw [zu_dn (by omega), e21]
    generalize zu M0 74 12 0 = M at hz hA1 e21b ⊢
    have hAL : Agree KL m M := hA1.sub (fun q hq => List.mem_append.mpr (Or.inl hq))
    refine z_readWayR0 (n := n) hT hz (hAL.law.1 hI.2.2.1) ((hA1 74 4 rfl).trans n2) (by omega) hv (fun s M1 hs hB1 hF1 h9 => ?_)
    have hA2 : Agree noT m M1 := hA1.trans (.of hF1 rfl)
    have f21 : M1 2 1 = 0 := by rw [hF1 2 1 rfl, e21b]
    refine zb272_10 (D := D2 + 166) hT rfl hB1 hs (fun _ => ?_) (fun _ => fin _ _ hB1 hA2 f21 h9)
    have b49 : 0 ≤ M1 74 49 ∧ M1 74 49 ≤ 26 := hB1 74 49
    obtain ⟨N, hN⟩ : ∃ N : Nat, M1 74 49 = (N : Int) := ⟨(M1 74 49).toNat, by omega⟩
    refine z_findTaken0 (D := D2 + 166) (N := N) hT hB1 hN (by omega) (fun c M3 hc hB3 hF3 hdone => ?_)
    have b79 : 0 ≤ M1 79 0 ∧ M1 79 0 ≤ 9 := hB1 79 0
    have hA3 : Agree noT m M3 := hA2.trans (.of hF3 rfl)
    have g21 : M3 2 1 = 0 := by rw [hF3 2 1 rfl, f21]
    have g9 : M3 74 9 = 0 := by rw [hF3 74 9 rfl, h9]
    have g49 : M3 74 49 = (N : Int) := (hF3 74 49 rfl).trans hN
    have g97 : ∀ j, M3 97 j = M1 97 j := fun j => hF3 97 j rfl
    have g79 : M3 79 0 = M1 79 0 := hF3 79 0 rfl
    refine zb272_21 (D := D2 + 166) hT rfl hB3 (by omega) ?_
    have third : ∀ (j t : Nat) (s o y : Int), t + j = N → (-1 ≤ y ∧ y + 1 ≤ t) → T (D2 + 172) 272 (61, [(0, zr 74), (4, zi s), (5, zi y), (6, zi o), (7, zi (t : Int))], [], M3) κ2 := by
      intro j
      induction j with
      | zero =>
        intro t s o y ht hy
        refine zb272_61 (D := D2 + 166) hT rfl hB3 (by omega) (by omega) (fun _ hz2 => ?_) (fun q => by omega) (fun q => by omega) (fun q => by omega) (fun q => by omega)
        refine fin _ _ hz2 (hA3.trans (.of (L := [(74, some 11), (81, none)]) (((zFr.refl.set rfl).set rfl).set rfl) rfl)) ?_ ?_
        · rw [zu_dn (by omega), zu_dn (by omega), zu_dn (by omega), g21]
        · rw [zu_off (by omega), zu_dn (by omega), zu_off (by omega), g9]
      | succ j ih =>
        intro t s o y ht hy
        have find : T (D2 + 172) 272 (98, [(0, zr 74), (4, zi s), (5, zi y), (7, zi (t : Int)), (8, zi 0)], [], M3) κ2 := by
          obtain ⟨i0, q1, q2, q3⟩ := y_done (L := M1 97) (T := tkT M3) (m := M1 79 0) (n := (N : Int)) (q := (c : Int)) b79.1 (fun k _ => hB1 97 k) hdone t (by omega)
          have loop : ∀ (d i : Nat), i + d = i0 → T (D2 + 172) 272 (98, [(0, zr 74), (4, zi s), (5, zi y), (7, zi (t : Int)), (8, zi (i : Int))], [], M3) κ2 := by
            intro d
            induction d with
            | zero =>
              intro i hi
              have : i = i0 := by omega
              subst this
              have e1 : M1 97 t ≤ wr (M3 98 i) := q2
              have e2 : wr (M3 98 i) ≤ M1 97 t + M1 79 0 := q3
              rw [← g97] at e1 e2
              rw [← g79] at e2
              exact zb272_98 (D := D2 + 166) hT rfl hB3 (by omega) (by omega) (by omega) (fun q => by omega) (fun _ q => by omega) (fun _ _ => ih (t + 1) s _ (y + 1) (by omega) (by omega))
            | succ d ih2 =>
              intro i hi
              exact zb272_98 (D := D2 + 166) hT rfl hB3 (by omega) (by omega) (by omega) (fun _ => ih2 (i + 1) (by omega)) (fun _ _ => ih2 (i + 1) (by omega)) (fun _ _ => ih (t + 1) s _ (y + 1) (by omega) (by omega))
          exact loop i0 0 (by omega)
        exact zb272_61 (D := D2 + 166) hT rfl hB3 (by omega) (by omega) (fun q => by omega) (fun _ _ => find) (fun _ _ _ => find) (fun _ _ _ _ => find) (fun _ _ _ _ => ih (t + 1) s o y (by omega) (by omega))
    have second : ∀ (j i : Nat) (s : Int), i + j = c → T (D2 + 172) 272 (28, [(0, zr 74), (3, zi (c : Int)), (4, zi s), (5, zi (i : Int))], [], M3) κ2 := by
      intro j
      induction j with
      | zero =>
        intro i s hi
        exact zb272_28 (D := D2 + 166) hT rfl hB3 (by omega) (by omega) (fun _ => third N 0 s (-1) (-1) (by omega) (by omega)) (fun q => by omega)
      | succ j ih =>
        intro i s hi
        exact zb272_28 (D := D2 + 166) hT rfl hB3 (by omega) (by omega) (fun q => by omega) (fun _ => ih (i + 1) _ (by omega))
    exact second c 0 0 (by omega)
  refine zb147_0 hT i1 hv ?_
  refine z_readWayC0 hT hI0 hv (fun r M hr hBM hF e21 h26 => ?_)
  have hA : Agree noT m M := .of hF rfl
  refine zb147_5 hT rfl hBM hr (fun r0 => ?_) (fun _ => ref _ _ hBM hA e21)
  have b24 : 0 ≤ M 24 0 ∧ M 24 0 ≤ 9 := hBM 24 0
  refine z_packFew0 (D := D + 2) hT hBM b24 (fun c M2 hc hB2 hF2 => ?_)
  have h52 := h26 r0
  have hA2 : Agree noT m M2 := hA.trans (.of hF2 rfl)
  have g21 : M2 2 1 = 0 := by rw [hF2 2 1 rfl, e21]
  have c24 : 0 ≤ M2 24 0 ∧ M2 24 0 ≤ 9 := hB2 24 0
  refine zb147_26 hT rfl hB2 (by omega) ?_
  have loop : ∀ (j i : Nat) (s : Int), i + j = c → T (D + 7) 147 (33, [(0, zr 1), (3, zi (c : Int)), (4, zi s), (5, zi (i : Int))], [], M2) κ := by
    intro j
    induction j with
    | zero =>
      intro i s hi
      refine zb147_33 hT rfl hB2 (by omega) (by omega) (fun _ => ?_) (fun q => by omega)
      refine z_changes0 (D := D + 4) hT hB2 (by omega) c24 (fun x hx => ?_)
      refine zb147_79 hT rfl hB2 hx (fun hz => ref _ _ hz (hA2.trans (.of (L := [(72, some 1), (73, none)]) ((zFr.refl.set rfl).set rfl) rfl)) ?_)
      rw [zu_dn (by omega), zu_dn (by omega), g21]
    | succ j ih =>
      intro i s hi
      exact zb147_33 hT rfl hB2 (by omega) (by omega) (fun q => by omega) (fun _ => ih (i + 1) _ (by omega))
  exact loop c 0 0 (by omega)
end ZTrunk
end
-- 9x.b27.lean.txt
section
section ZBlocks
variable {T : Nat → Nat → zG → (Option zA → zM → Prop) → Prop}
theorem zb108_0r (hT : zRules T) {D : Nat} {κ : Option zA → zM → Prop} {m : zM} {i : Nat} 
    (o1 : ∀ j, zbd 3 j (m 3 j))
    (o2 : (0 ≤ (m 2 3) ∧ (m 2 3) ≤ 1000))
    (o3 : (0 ≤ (m 2 2) ∧ (m 2 2) ≤ 80))
    (o4 : (0 ≤ wr (i : Int) ∧ wr (i : Int) < 30))
    (o5 : ∀ j, zbd 3 j ((zu m 49 ((wr (i : Int)).toNat) (nxC m)) 3 j))
    (o6 : (0 ≤ (m 2 3) ∧ (m 2 3) ≤ 1000))
    (o7 : (0 ≤ (m 2 2) ∧ (m 2 2) ≤ 80))
    (o8 : wr (nxC (zu m 49 ((wr (i : Int)).toNat) (nxC m))) = 107 → T (D + 2) 109 (0, [(0, zr 48), (1, zr 2), (2, zi (i : Int))], [], (zu (zu m 49 ((wr (i : Int)).toNat) (nxC m)) 2 3 ((m 2 3) + 1))) (fun r m1 => T (D + 3) 108 (25, [(0, zr 48), (1, zr 2), (2, zi (i : Int))], r.toList ++ [], m1) κ))
    (o9 : ¬ wr (nxC (zu m 49 ((wr (i : Int)).toNat) (nxC m))) = 107 → ∀ j, zbd 3 j ((zu m 49 ((wr (i : Int)).toNat) (nxC m)) 3 j))
    (o10 : ¬ wr (nxC (zu m 49 ((wr (i : Int)).toNat) (nxC m))) = 107 → (0 ≤ (m 2 3) ∧ (m 2 3) ≤ 1000))
    (o11 : ¬ wr (nxC (zu m 49 ((wr (i : Int)).toNat) (nxC m))) = 107 → (0 ≤ (m 2 2) ∧ (m 2 2) ≤ 80))
    (o12 : ¬ wr (nxC (zu m 49 ((wr (i : Int)).toNat) (nxC m))) = 107 → wr (nxC (zu m 49 ((wr (i : Int)).toNat) (nxC m))) = 119 → ∀ j, zbd 3 j ((zu (zu m 49 ((wr (i : Int)).toNat) (nxC m)) 2 3 ((m 2 3) + 1)) 3 j))
    (o13 : ¬ wr (nxC (zu m 49 ((wr (i : Int)).toNat) (nxC m))) = 107 → wr (nxC (zu m 49 ((wr (i : Int)).toNat) (nxC m))) = 119 → (0 ≤ ((m 2 3) + 1) ∧ ((m 2 3) + 1) ≤ 1000))
    (o14 : ¬ wr (nxC (zu m 49 ((wr (i : Int)).toNat) (nxC m))) = 107 → wr (nxC (zu m 49 ((wr (i : Int)).toNat) (nxC m))) = 119 → (0 ≤ (m 2 2) ∧ (m 2 2) ≤ 80))
    (o15 : ¬ wr (nxC (zu m 49 ((wr (i : Int)).toNat) (nxC m))) = 107 → wr (nxC (zu m 49 ((wr (i : Int)).toNat) (nxC m))) = 119 → wr (nxC (zu (zu m 49 ((wr (i : Int)).toNat) (nxC m)) 2 3 ((m 2 3) + 1))) < 48 → (0 ≤ wr (i : Int) ∧ wr (i : Int) < 30))
    (o16 : ¬ wr (nxC (zu m 49 ((wr (i : Int)).toNat) (nxC m))) = 107 → wr (nxC (zu m 49 ((wr (i : Int)).toNat) (nxC m))) = 119 → wr (nxC (zu (zu m 49 ((wr (i : Int)).toNat) (nxC m)) 2 3 ((m 2 3) + 1))) < 48 → (0 ≤ wr (i : Int) ∧ wr (i : Int) < 30))
    (o17 : ¬ wr (nxC (zu m 49 ((wr (i : Int)).toNat) (nxC m))) = 107 → wr (nxC (zu m 49 ((wr (i : Int)).toNat) (nxC m))) = 119 → wr (nxC (zu (zu m 49 ((wr (i : Int)).toNat) (nxC m)) 2 3 ((m 2 3) + 1))) < 48 → wr ((zu (zu (zu m 49 ((wr (i : Int)).toNat) (nxC m)) 2 3 ((m 2 3) + 1)) 50 ((wr (i : Int)).toNat) (-1)) 50 ((wr (i : Int)).toNat)) = (-1) → κ (some (zi 0)) (zu (zu (zu m 49 ((wr (i : Int)).toNat) (nxC m)) 2 3 ((m 2 3) + 1)) 50 ((wr (i : Int)).toNat) (-1)))
    (o18 : ¬ wr (nxC (zu m 49 ((wr (i : Int)).toNat) (nxC m))) = 107 → wr (nxC (zu m 49 ((wr (i : Int)).toNat) (nxC m))) = 119 → wr (nxC (zu (zu m 49 ((wr (i : Int)).toNat) (nxC m)) 2 3 ((m 2 3) + 1))) < 48 → ¬ wr ((zu (zu (zu m 49 ((wr (i : Int)).toNat) (nxC m)) 2 3 ((m 2 3) + 1)) 50 ((wr (i : Int)).toNat) (-1)) 50 ((wr (i : Int)).toNat)) = (-1) → False)
    (o19 : ¬ wr (nxC (zu m 49 ((wr (i : Int)).toNat) (nxC m))) = 107 → wr (nxC (zu m 49 ((wr (i : Int)).toNat) (nxC m))) = 119 → ¬ wr (nxC (zu (zu m 49 ((wr (i : Int)).toNat) (nxC m)) 2 3 ((m 2 3) + 1))) < 48 → ¬ 57 < wr (nxC (zu (zu m 49 ((wr (i : Int)).toNat) (nxC m)) 2 3 ((m 2 3) + 1))) → (0 ≤ wr (i : Int) ∧ wr (i : Int) < 30))
    (o20 : ¬ wr (nxC (zu m 49 ((wr (i : Int)).toNat) (nxC m))) = 107 → wr (nxC (zu m 49 ((wr (i : Int)).toNat) (nxC m))) = 119 → ¬ wr (nxC (zu (zu m 49 ((wr (i : Int)).toNat) (nxC m)) 2 3 ((m 2 3) + 1))) < 48 → ¬ 57 < wr (nxC (zu (zu m 49 ((wr (i : Int)).toNat) (nxC m)) 2 3 ((m 2 3) + 1))) → (0 ≤ wr (i : Int) ∧ wr (i : Int) < 30))
    (o21 : ¬ wr (nxC (zu m 49 ((wr (i : Int)).toNat) (nxC m))) = 107 → wr (nxC (zu m 49 ((wr (i : Int)).toNat) (nxC m))) = 119 → ¬ wr (nxC (zu (zu m 49 ((wr (i : Int)).toNat) (nxC m)) 2 3 ((m 2 3) + 1))) < 48 → ¬ 57 < wr (nxC (zu (zu m 49 ((wr (i : Int)).toNat) (nxC m)) 2 3 ((m 2 3) + 1))) → wr ((zu (zu (zu (zu m 49 ((wr (i : Int)).toNat) (nxC m)) 2 3 ((m 2 3) + 1)) 2 3 (((m 2 3) + 1) + 1)) 50 ((wr (i : Int)).toNat) (wr ((nxC (zu (zu m 49 ((wr (i : Int)).toNat) (nxC m)) 2 3 ((m 2 3) + 1))) - 48))) 50 ((wr (i : Int)).toNat)) = (-1) → False)
    (o22 : ¬ wr (nxC (zu m 49 ((wr (i : Int)).toNat) (nxC m))) = 107 → wr (nxC (zu m 49 ((wr (i : Int)).toNat) (nxC m))) = 119 → ¬ wr (nxC (zu (zu m 49 ((wr (i : Int)).toNat) (nxC m)) 2 3 ((m 2 3) + 1))) < 48 → ¬ 57 < wr (nxC (zu (zu m 49 ((wr (i : Int)).toNat) (nxC m)) 2 3 ((m 2 3) + 1))) → ¬ wr ((zu (zu (zu (zu m 49 ((wr (i : Int)).toNat) (nxC m)) 2 3 ((m 2 3) + 1)) 2 3 (((m 2 3) + 1) + 1)) 50 ((wr (i : Int)).toNat) (wr ((nxC (zu (zu m 49 ((wr (i : Int)).toNat) (nxC m)) 2 3 ((m 2 3) + 1))) - 48))) 50 ((wr (i : Int)).toNat)) = (-1) → T (D + 2) 110 (0, [(0, zr 48), (1, zr 2), (2, zi (i : Int))], [], (zu (zu (zu (zu m 49 ((wr (i : Int)).toNat) (nxC m)) 2 3 ((m 2 3) + 1)) 2 3 (((m 2 3) + 1) + 1)) 50 ((wr (i : Int)).toNat) (wr ((nxC (zu (zu m 49 ((wr (i : Int)).toNat) (nxC m)) 2 3 ((m 2 3) + 1))) - 48)))) (fun r m1 => T (D + 3) 108 (84, [(0, zr 48), (1, zr 2), (2, zi (i : Int))], r.toList ++ [], m1) κ))
    (o23 : ¬ wr (nxC (zu m 49 ((wr (i : Int)).toNat) (nxC m))) = 107 → wr (nxC (zu m 49 ((wr (i : Int)).toNat) (nxC m))) = 119 → ¬ wr (nxC (zu (zu m 49 ((wr (i : Int)).toNat) (nxC m)) 2 3 ((m 2 3) + 1))) < 48 → 57 < wr (nxC (zu (zu m 49 ((wr (i : Int)).toNat) (nxC m)) 2 3 ((m 2 3) + 1))) → (0 ≤ wr (i : Int) ∧ wr (i : Int) < 30))
    (o24 : ¬ wr (nxC (zu m 49 ((wr (i : Int)).toNat) (nxC m))) = 107 → wr (nxC (zu m 49 ((wr (i : Int)).toNat) (nxC m))) = 119 → ¬ wr (nxC (zu (zu m 49 ((wr (i : Int)).toNat) (nxC m)) 2 3 ((m 2 3) + 1))) < 48 → 57 < wr (nxC (zu (zu m 49 ((wr (i : Int)).toNat) (nxC m)) 2 3 ((m 2 3) + 1))) → (0 ≤ wr (i : Int) ∧ wr (i : Int) < 30))
    (o25 : ¬ wr (nxC (zu m 49 ((wr (i : Int)).toNat) (nxC m))) = 107 → wr (nxC (zu m 49 ((wr (i : Int)).toNat) (nxC m))) = 119 → ¬ wr (nxC (zu (zu m 49 ((wr (i : Int)).toNat) (nxC m)) 2 3 ((m 2 3) + 1))) < 48 → 57 < wr (nxC (zu (zu m 49 ((wr (i : Int)).toNat) (nxC m)) 2 3 ((m 2 3) + 1))) → wr ((zu (zu (zu m 49 ((wr (i : Int)).toNat) (nxC m)) 2 3 ((m 2 3) + 1)) 50 ((wr (i : Int)).toNat) (-1)) 50 ((wr (i : Int)).toNat)) = (-1) → κ (some (zi 0)) (zu (zu (zu m 49 ((wr (i : Int)).toNat) (nxC m)) 2 3 ((m 2 3) + 1)) 50 ((wr (i : Int)).toNat) (-1)))
    (o26 : ¬ wr (nxC (zu m 49 ((wr (i : Int)).toNat) (nxC m))) = 107 → wr (nxC (zu m 49 ((wr (i : Int)).toNat) (nxC m))) = 119 → ¬ wr (nxC (zu (zu m 49 ((wr (i : Int)).toNat) (nxC m)) 2 3 ((m 2 3) + 1))) < 48 → 57 < wr (nxC (zu (zu m 49 ((wr (i : Int)).toNat) (nxC m)) 2 3 ((m 2 3) + 1))) → ¬ wr ((zu (zu (zu m 49 ((wr (i : Int)).toNat) (nxC m)) 2 3 ((m 2 3) + 1)) 50 ((wr (i : Int)).toNat) (-1)) 50 ((wr (i : Int)).toNat)) = (-1) → False)
    (o27 : ¬ wr (nxC (zu m 49 ((wr (i : Int)).toNat) (nxC m))) = 107 → ¬ wr (nxC (zu m 49 ((wr (i : Int)).toNat) (nxC m))) = 119 → ∀ j, zbd 3 j ((zu m 49 ((wr (i : Int)).toNat) (nxC m)) 3 j))
    (o28 : ¬ wr (nxC (zu m 49 ((wr (i : Int)).toNat) (nxC m))) = 107 → ¬ wr (nxC (zu m 49 ((wr (i : Int)).toNat) (nxC m))) = 119 → (0 ≤ (m 2 3) ∧ (m 2 3) ≤ 1000))
    (o29 : ¬ wr (nxC (zu m 49 ((wr (i : Int)).toNat) (nxC m))) = 107 → ¬ wr (nxC (zu m 49 ((wr (i : Int)).toNat) (nxC m))) = 119 → (0 ≤ (m 2 2) ∧ (m 2 2) ≤ 80))
    (o30 : ¬ wr (nxC (zu m 49 ((wr (i : Int)).toNat) (nxC m))) = 107 → ¬ wr (nxC (zu m 49 ((wr (i : Int)).toNat) (nxC m))) = 119 → wr (nxC (zu m 49 ((wr (i : Int)).toNat) (nxC m))) = 103 → ∀ j, zbd 3 j ((zu (zu m 49 ((wr (i : Int)).toNat) (nxC m)) 2 3 ((m 2 3) + 1)) 3 j))
    (o31 : ¬ wr (nxC (zu m 49 ((wr (i : Int)).toNat) (nxC m))) = 107 → ¬ wr (nxC (zu m 49 ((wr (i : Int)).toNat) (nxC m))) = 119 → wr (nxC (zu m 49 ((wr (i : Int)).toNat) (nxC m))) = 103 → (0 ≤ ((m 2 3) + 1) ∧ ((m 2 3) + 1) ≤ 1000))
    (o32 : ¬ wr (nxC (zu m 49 ((wr (i : Int)).toNat) (nxC m))) = 107 → ¬ wr (nxC (zu m 49 ((wr (i : Int)).toNat) (nxC m))) = 119 → wr (nxC (zu m 49 ((wr (i : Int)).toNat) (nxC m))) = 103 → (0 ≤ (m 2 2) ∧ (m 2 2) ≤ 80))
    (o33 : ¬ wr (nxC (zu m 49 ((wr (i : Int)).toNat) (nxC m))) = 107 → ¬ wr (nxC (zu m 49 ((wr (i : Int)).toNat) (nxC m))) = 119 → wr (nxC (zu m 49 ((wr (i : Int)).toNat) (nxC m))) = 103 → wr (nxC (zu (zu m 49 ((wr (i : Int)).toNat) (nxC m)) 2 3 ((m 2 3) + 1))) < 48 → (0 ≤ wr (i : Int) ∧ wr (i : Int) < 30))
    (o34 : ¬ wr (nxC (zu m 49 ((wr (i : Int)).toNat) (nxC m))) = 107 → ¬ wr (nxC (zu m 49 ((wr (i : Int)).toNat) (nxC m))) = 119 → wr (nxC (zu m 49 ((wr (i : Int)).toNat) (nxC m))) = 103 → wr (nxC (zu (zu m 49 ((wr (i : Int)).toNat) (nxC m)) 2 3 ((m 2 3) + 1))) < 48 → (0 ≤ wr (i : Int) ∧ wr (i : Int) < 30))
    (o35 : ¬ wr (nxC (zu m 49 ((wr (i : Int)).toNat) (nxC m))) = 107 → ¬ wr (nxC (zu m 49 ((wr (i : Int)).toNat) (nxC m))) = 119 → wr (nxC (zu m 49 ((wr (i : Int)).toNat) (nxC m))) = 103 → wr (nxC (zu (zu m 49 ((wr (i : Int)).toNat) (nxC m)) 2 3 ((m 2 3) + 1))) < 48 → wr ((zu (zu (zu m 49 ((wr (i : Int)).toNat) (nxC m)) 2 3 ((m 2 3) + 1)) 50 ((wr (i : Int)).toNat) (-1)) 50 ((wr (i : Int)).toNat)) = (-1) → κ (some (zi 0)) (zu (zu (zu m 49 ((wr (i : Int)).toNat) (nxC m)) 2 3 ((m 2 3) + 1)) 50 ((wr (i : Int)).toNat) (-1)))
    (o36 : ¬ wr (nxC (zu m 49 ((wr (i : Int)).toNat) (nxC m))) = 107 → ¬ wr (nxC (zu m 49 ((wr (i : Int)).toNat) (nxC m))) = 119 → wr (nxC (zu m 49 ((wr (i : Int)).toNat) (nxC m))) = 103 → wr (nxC (zu (zu m 49 ((wr (i : Int)).toNat) (nxC m)) 2 3 ((m 2 3) + 1))) < 48 → ¬ wr ((zu (zu (zu m 49 ((wr (i : Int)).toNat) (nxC m)) 2 3 ((m 2 3) + 1)) 50 ((wr (i : Int)).toNat) (-1)) 50 ((wr (i : Int)).toNat)) = (-1) → False)
    (o37 : ¬ wr (nxC (zu m 49 ((wr (i : Int)).toNat) (nxC m))) = 107 → ¬ wr (nxC (zu m 49 ((wr (i : Int)).toNat) (nxC m))) = 119 → wr (nxC (zu m 49 ((wr (i : Int)).toNat) (nxC m))) = 103 → ¬ wr (nxC (zu (zu m 49 ((wr (i : Int)).toNat) (nxC m)) 2 3 ((m 2 3) + 1))) < 48 → ¬ 57 < wr (nxC (zu (zu m 49 ((wr (i : Int)).toNat) (nxC m)) 2 3 ((m 2 3) + 1))) → (0 ≤ wr (i : Int) ∧ wr (i : Int) < 30))
    (o38 : ¬ wr (nxC (zu m 49 ((wr (i : Int)).toNat) (nxC m))) = 107 → ¬ wr (nxC (zu m 49 ((wr (i : Int)).toNat) (nxC m))) = 119 → wr (nxC (zu m 49 ((wr (i : Int)).toNat) (nxC m))) = 103 → ¬ wr (nxC (zu (zu m 49 ((wr (i : Int)).toNat) (nxC m)) 2 3 ((m 2 3) + 1))) < 48 → ¬ 57 < wr (nxC (zu (zu m 49 ((wr (i : Int)).toNat) (nxC m)) 2 3 ((m 2 3) + 1))) → (0 ≤ wr (i : Int) ∧ wr (i : Int) < 30))
    (o39 : ¬ wr (nxC (zu m 49 ((wr (i : Int)).toNat) (nxC m))) = 107 → ¬ wr (nxC (zu m 49 ((wr (i : Int)).toNat) (nxC m))) = 119 → wr (nxC (zu m 49 ((wr (i : Int)).toNat) (nxC m))) = 103 → ¬ wr (nxC (zu (zu m 49 ((wr (i : Int)).toNat) (nxC m)) 2 3 ((m 2 3) + 1))) < 48 → ¬ 57 < wr (nxC (zu (zu m 49 ((wr (i : Int)).toNat) (nxC m)) 2 3 ((m 2 3) + 1))) → wr ((zu (zu (zu (zu m 49 ((wr (i : Int)).toNat) (nxC m)) 2 3 ((m 2 3) + 1)) 2 3 (((m 2 3) + 1) + 1)) 50 ((wr (i : Int)).toNat) (wr ((nxC (zu (zu m 49 ((wr (i : Int)).toNat) (nxC m)) 2 3 ((m 2 3) + 1))) - 48))) 50 ((wr (i : Int)).toNat)) = (-1) → False)
    (o40 : ¬ wr (nxC (zu m 49 ((wr (i : Int)).toNat) (nxC m))) = 107 → ¬ wr (nxC (zu m 49 ((wr (i : Int)).toNat) (nxC m))) = 119 → wr (nxC (zu m 49 ((wr (i : Int)).toNat) (nxC m))) = 103 → ¬ wr (nxC (zu (zu m 49 ((wr (i : Int)).toNat) (nxC m)) 2 3 ((m 2 3) + 1))) < 48 → ¬ 57 < wr (nxC (zu (zu m 49 ((wr (i : Int)).toNat) (nxC m)) 2 3 ((m 2 3) + 1))) → ¬ wr ((zu (zu (zu (zu m 49 ((wr (i : Int)).toNat) (nxC m)) 2 3 ((m 2 3) + 1)) 2 3 (((m 2 3) + 1) + 1)) 50 ((wr (i : Int)).toNat) (wr ((nxC (zu (zu m 49 ((wr (i : Int)).toNat) (nxC m)) 2 3 ((m 2 3) + 1))) - 48))) 50 ((wr (i : Int)).toNat)) = (-1) → T (D + 2) 110 (0, [(0, zr 48), (1, zr 2), (2, zi (i : Int))], [], (zu (zu (zu (zu m 49 ((wr (i : Int)).toNat) (nxC m)) 2 3 ((m 2 3) + 1)) 2 3 (((m 2 3) + 1) + 1)) 50 ((wr (i : Int)).toNat) (wr ((nxC (zu (zu m 49 ((wr (i : Int)).toNat) (nxC m)) 2 3 ((m 2 3) + 1))) - 48)))) (fun r m1 => T (D + 3) 108 (84, [(0, zr 48), (1, zr 2), (2, zi (i : Int))], r.toList ++ [], m1) κ))
    (o41 : ¬ wr (nxC (zu m 49 ((wr (i : Int)).toNat) (nxC m))) = 107 → ¬ wr (nxC (zu m 49 ((wr (i : Int)).toNat) (nxC m))) = 119 → wr (nxC (zu m 49 ((wr (i : Int)).toNat) (nxC m))) = 103 → ¬ wr (nxC (zu (zu m 49 ((wr (i : Int)).toNat) (nxC m)) 2 3 ((m 2 3) + 1))) < 48 → 57 < wr (nxC (zu (zu m 49 ((wr (i : Int)).toNat) (nxC m)) 2 3 ((m 2 3) + 1))) → (0 ≤ wr (i : Int) ∧ wr (i : Int) < 30))
    (o42 : ¬ wr (nxC (zu m 49 ((wr (i : Int)).toNat) (nxC m))) = 107 → ¬ wr (nxC (zu m 49 ((wr (i : Int)).toNat) (nxC m))) = 119 → wr (nxC (zu m 49 ((wr (i : Int)).toNat) (nxC m))) = 103 → ¬ wr (nxC (zu (zu m 49 ((wr (i : Int)).toNat) (nxC m)) 2 3 ((m 2 3) + 1))) < 48 → 57 < wr (nxC (zu (zu m 49 ((wr (i : Int)).toNat) (nxC m)) 2 3 ((m 2 3) + 1))) → (0 ≤ wr (i : Int) ∧ wr (i : Int) < 30))
    (o43 : ¬ wr (nxC (zu m 49 ((wr (i : Int)).toNat) (nxC m))) = 107 → ¬ wr (nxC (zu m 49 ((wr (i : Int)).toNat) (nxC m))) = 119 → wr (nxC (zu m 49 ((wr (i : Int)).toNat) (nxC m))) = 103 → ¬ wr (nxC (zu (zu m 49 ((wr (i : Int)).toNat) (nxC m)) 2 3 ((m 2 3) + 1))) < 48 → 57 < wr (nxC (zu (zu m 49 ((wr (i : Int)).toNat) (nxC m)) 2 3 ((m 2 3) + 1))) → wr ((zu (zu (zu m 49 ((wr (i : Int)).toNat) (nxC m)) 2 3 ((m 2 3) + 1)) 50 ((wr (i : Int)).toNat) (-1)) 50 ((wr (i : Int)).toNat)) = (-1) → κ (some (zi 0)) (zu (zu (zu m 49 ((wr (i : Int)).toNat) (nxC m)) 2 3 ((m 2 3) + 1)) 50 ((wr (i : Int)).toNat) (-1)))
    (o44 : ¬ wr (nxC (zu m 49 ((wr (i : Int)).toNat) (nxC m))) = 107 → ¬ wr (nxC (zu m 49 ((wr (i : Int)).toNat) (nxC m))) = 119 → wr (nxC (zu m 49 ((wr (i : Int)).toNat) (nxC m))) = 103 → ¬ wr (nxC (zu (zu m 49 ((wr (i : Int)).toNat) (nxC m)) 2 3 ((m 2 3) + 1))) < 48 → 57 < wr (nxC (zu (zu m 49 ((wr (i : Int)).toNat) (nxC m)) 2 3 ((m 2 3) + 1))) → ¬ wr ((zu (zu (zu m 49 ((wr (i : Int)).toNat) (nxC m)) 2 3 ((m 2 3) + 1)) 50 ((wr (i : Int)).toNat) (-1)) 50 ((wr (i : Int)).toNat)) = (-1) → False)
    (o45 : ¬ wr (nxC (zu m 49 ((wr (i : Int)).toNat) (nxC m))) = 107 → ¬ wr (nxC (zu m 49 ((wr (i : Int)).toNat) (nxC m))) = 119 → ¬ wr (nxC (zu m 49 ((wr (i : Int)).toNat) (nxC m))) = 103 → ∀ j, zbd 3 j ((zu m 49 ((wr (i : Int)).toNat) (nxC m)) 3 j))
    (o46 : ¬ wr (nxC (zu m 49 ((wr (i : Int)).toNat) (nxC m))) = 107 → ¬ wr (nxC (zu m 49 ((wr (i : Int)).toNat) (nxC m))) = 119 → ¬ wr (nxC (zu m 49 ((wr (i : Int)).toNat) (nxC m))) = 103 → (0 ≤ (m 2 3) ∧ (m 2 3) ≤ 1000))
    (o47 : ¬ wr (nxC (zu m 49 ((wr (i : Int)).toNat) (nxC m))) = 107 → ¬ wr (nxC (zu m 49 ((wr (i : Int)).toNat) (nxC m))) = 119 → ¬ wr (nxC (zu m 49 ((wr (i : Int)).toNat) (nxC m))) = 103 → (0 ≤ (m 2 2) ∧ (m 2 2) ≤ 80))
    (o48 : ¬ wr (nxC (zu m 49 ((wr (i : Int)).toNat) (nxC m))) = 107 → ¬ wr (nxC (zu m 49 ((wr (i : Int)).toNat) (nxC m))) = 119 → ¬ wr (nxC (zu m 49 ((wr (i : Int)).toNat) (nxC m))) = 103 → wr (nxC (zu m 49 ((wr (i : Int)).toNat) (nxC m))) = 109 → ∀ j, zbd 3 j ((zu (zu m 49 ((wr (i : Int)).toNat) (nxC m)) 2 3 ((m 2 3) + 1)) 3 j))
    (o49 : ¬ wr (nxC (zu m 49 ((wr (i : Int)).toNat) (nxC m))) = 107 → ¬ wr (nxC (zu m 49 ((wr (i : Int)).toNat) (nxC m))) = 119 → ¬ wr (nxC (zu m 49 ((wr (i : Int)).toNat) (nxC m))) = 103 → wr (nxC (zu m 49 ((wr (i : Int)).toNat) (nxC m))) = 109 → (0 ≤ ((m 2 3) + 1) ∧ ((m 2 3) + 1) ≤ 1000))
    (o50 : ¬ wr (nxC (zu m 49 ((wr (i : Int)).toNat) (nxC m))) = 107 → ¬ wr (nxC (zu m 49 ((wr (i : Int)).toNat) (nxC m))) = 119 → ¬ wr (nxC (zu m 49 ((wr (i : Int)).toNat) (nxC m))) = 103 → wr (nxC (zu m 49 ((wr (i : Int)).toNat) (nxC m))) = 109 → (0 ≤ (m 2 2) ∧ (m 2 2) ≤ 80))
    (o51 : ¬ wr (nxC (zu m 49 ((wr (i : Int)).toNat) (nxC m))) = 107 → ¬ wr (nxC (zu m 49 ((wr (i : Int)).toNat) (nxC m))) = 119 → ¬ wr (nxC (zu m 49 ((wr (i : Int)).toNat) (nxC m))) = 103 → wr (nxC (zu m 49 ((wr (i : Int)).toNat) (nxC m))) = 109 → wr (nxC (zu (zu m 49 ((wr (i : Int)).toNat) (nxC m)) 2 3 ((m 2 3) + 1))) < 48 → (0 ≤ wr (i : Int) ∧ wr (i : Int) < 30))
    (o52 : ¬ wr (nxC (zu m 49 ((wr (i : Int)).toNat) (nxC m))) = 107 → ¬ wr (nxC (zu m 49 ((wr (i : Int)).toNat) (nxC m))) = 119 → ¬ wr (nxC (zu m 49 ((wr (i : Int)).toNat) (nxC m))) = 103 → wr (nxC (zu m 49 ((wr (i : Int)).toNat) (nxC m))) = 109 → wr (nxC (zu (zu m 49 ((wr (i : Int)).toNat) (nxC m)) 2 3 ((m 2 3) + 1))) < 48 → (0 ≤ wr (i : Int) ∧ wr (i : Int) < 30))
    (o53 : ¬ wr (nxC (zu m 49 ((wr (i : Int)).toNat) (nxC m))) = 107 → ¬ wr (nxC (zu m 49 ((wr (i : Int)).toNat) (nxC m))) = 119 → ¬ wr (nxC (zu m 49 ((wr (i : Int)).toNat) (nxC m))) = 103 → wr (nxC (zu m 49 ((wr (i : Int)).toNat) (nxC m))) = 109 → wr (nxC (zu (zu m 49 ((wr (i : Int)).toNat) (nxC m)) 2 3 ((m 2 3) + 1))) < 48 → wr ((zu (zu (zu m 49 ((wr (i : Int)).toNat) (nxC m)) 2 3 ((m 2 3) + 1)) 50 ((wr (i : Int)).toNat) (-1)) 50 ((wr (i : Int)).toNat)) = (-1) → κ (some (zi 0)) (zu (zu (zu m 49 ((wr (i : Int)).toNat) (nxC m)) 2 3 ((m 2 3) + 1)) 50 ((wr (i : Int)).toNat) (-1)))
    (o54 : ¬ wr (nxC (zu m 49 ((wr (i : Int)).toNat) (nxC m))) = 107 → ¬ wr (nxC (zu m 49 ((wr (i : Int)).toNat) (nxC m))) = 119 → ¬ wr (nxC (zu m 49 ((wr (i : Int)).toNat) (nxC m))) = 103 → wr (nxC (zu m 49 ((wr (i : Int)).toNat) (nxC m))) = 109 → wr (nxC (zu (zu m 49 ((wr (i : Int)).toNat) (nxC m)) 2 3 ((m 2 3) + 1))) < 48 → ¬ wr ((zu (zu (zu m 49 ((wr (i : Int)).toNat) (nxC m)) 2 3 ((m 2 3) + 1)) 50 ((wr (i : Int)).toNat) (-1)) 50 ((wr (i : Int)).toNat)) = (-1) → False)
    (o55 : ¬ wr (nxC (zu m 49 ((wr (i : Int)).toNat) (nxC m))) = 107 → ¬ wr (nxC (zu m 49 ((wr (i : Int)).toNat) (nxC m))) = 119 → ¬ wr (nxC (zu m 49 ((wr (i : Int)).toNat) (nxC m))) = 103 → wr (nxC (zu m 49 ((wr (i : Int)).toNat) (nxC m))) = 109 → ¬ wr (nxC (zu (zu m 49 ((wr (i : Int)).toNat) (nxC m)) 2 3 ((m 2 3) + 1))) < 48 → ¬ 57 < wr (nxC (zu (zu m 49 ((wr (i : Int)).toNat) (nxC m)) 2 3 ((m 2 3) + 1))) → (0 ≤ wr (i : Int) ∧ wr (i : Int) < 30))
    (o56 : ¬ wr (nxC (zu m 49 ((wr (i : Int)).toNat) (nxC m))) = 107 → ¬ wr (nxC (zu m 49 ((wr (i : Int)).toNat) (nxC m))) = 119 → ¬ wr (nxC (zu m 49 ((wr (i : Int)).toNat) (nxC m))) = 103 → wr (nxC (zu m 49 ((wr (i : Int)).toNat) (nxC m))) = 109 → ¬ wr (nxC (zu (zu m 49 ((wr (i : Int)).toNat) (nxC m)) 2 3 ((m 2 3) + 1))) < 48 → ¬ 57 < wr (nxC (zu (zu m 49 ((wr (i : Int)).toNat) (nxC m)) 2 3 ((m 2 3) + 1))) → (0 ≤ wr (i : Int) ∧ wr (i : Int) < 30))
    (o57 : ¬ wr (nxC (zu m 49 ((wr (i : Int)).toNat) (nxC m))) = 107 → ¬ wr (nxC (zu m 49 ((wr (i : Int)).toNat) (nxC m))) = 119 → ¬ wr (nxC (zu m 49 ((wr (i : Int)).toNat) (nxC m))) = 103 → wr (nxC (zu m 49 ((wr (i : Int)).toNat) (nxC m))) = 109 → ¬ wr (nxC (zu (zu m 49 ((wr (i : Int)).toNat) (nxC m)) 2 3 ((m 2 3) + 1))) < 48 → ¬ 57 < wr (nxC (zu (zu m 49 ((wr (i : Int)).toNat) (nxC m)) 2 3 ((m 2 3) + 1))) → wr ((zu (zu (zu (zu m 49 ((wr (i : Int)).toNat) (nxC m)) 2 3 ((m 2 3) + 1)) 2 3 (((m 2 3) + 1) + 1)) 50 ((wr (i : Int)).toNat) (wr ((nxC (zu (zu m 49 ((wr (i : Int)).toNat) (nxC m)) 2 3 ((m 2 3) + 1))) - 48))) 50 ((wr (i : Int)).toNat)) = (-1) → False)
    (o58 : ¬ wr (nxC (zu m 49 ((wr (i : Int)).toNat) (nxC m))) = 107 → ¬ wr (nxC (zu m 49 ((wr (i : Int)).toNat) (nxC m))) = 119 → ¬ wr (nxC (zu m 49 ((wr (i : Int)).toNat) (nxC m))) = 103 → wr (nxC (zu m 49 ((wr (i : Int)).toNat) (nxC m))) = 109 → ¬ wr (nxC (zu (zu m 49 ((wr (i : Int)).toNat) (nxC m)) 2 3 ((m 2 3) + 1))) < 48 → ¬ 57 < wr (nxC (zu (zu m 49 ((wr (i : Int)).toNat) (nxC m)) 2 3 ((m 2 3) + 1))) → ¬ wr ((zu (zu (zu (zu m 49 ((wr (i : Int)).toNat) (nxC m)) 2 3 ((m 2 3) + 1)) 2 3 (((m 2 3) + 1) + 1)) 50 ((wr (i : Int)).toNat) (wr ((nxC (zu (zu m 49 ((wr (i : Int)).toNat) (nxC m)) 2 3 ((m 2 3) + 1))) - 48))) 50 ((wr (i : Int)).toNat)) = (-1) → T (D + 2) 110 (0, [(0, zr 48), (1, zr 2), (2, zi (i : Int))], [], (zu (zu (zu (zu m 49 ((wr (i : Int)).toNat) (nxC m)) 2 3 ((m 2 3) + 1)) 2 3 (((m 2 3) + 1) + 1)) 50 ((wr (i : Int)).toNat) (wr ((nxC (zu (zu m 49 ((wr (i : Int)).toNat) (nxC m)) 2 3 ((m 2 3) + 1))) - 48)))) (fun r m1 => T (D + 3) 108 (84, [(0, zr 48), (1, zr 2), (2, zi (i : Int))], r.toList ++ [], m1) κ))
    (o59 : ¬ wr (nxC (zu m 49 ((wr (i : Int)).toNat) (nxC m))) = 107 → ¬ wr (nxC (zu m 49 ((wr (i : Int)).toNat) (nxC m))) = 119 → ¬ wr (nxC (zu m 49 ((wr (i : Int)).toNat) (nxC m))) = 103 → wr (nxC (zu m 49 ((wr (i : Int)).toNat) (nxC m))) = 109 → ¬ wr (nxC (zu (zu m 49 ((wr (i : Int)).toNat) (nxC m)) 2 3 ((m 2 3) + 1))) < 48 → 57 < wr (nxC (zu (zu m 49 ((wr (i : Int)).toNat) (nxC m)) 2 3 ((m 2 3) + 1))) → (0 ≤ wr (i : Int) ∧ wr (i : Int) < 30))
    (o60 : ¬ wr (nxC (zu m 49 ((wr (i : Int)).toNat) (nxC m))) = 107 → ¬ wr (nxC (zu m 49 ((wr (i : Int)).toNat) (nxC m))) = 119 → ¬ wr (nxC (zu m 49 ((wr (i : Int)).toNat) (nxC m))) = 103 → wr (nxC (zu m 49 ((wr (i : Int)).toNat) (nxC m))) = 109 → ¬ wr (nxC (zu (zu m 49 ((wr (i : Int)).toNat) (nxC m)) 2 3 ((m 2 3) + 1))) < 48 → 57 < wr (nxC (zu (zu m 49 ((wr (i : Int)).toNat) (nxC m)) 2 3 ((m 2 3) + 1))) → (0 ≤ wr (i : Int) ∧ wr (i : Int) < 30))
    (o61 : ¬ wr (nxC (zu m 49 ((wr (i : Int)).toNat) (nxC m))) = 107 → ¬ wr (nxC (zu m 49 ((wr (i : Int)).toNat) (nxC m))) = 119 → ¬ wr (nxC (zu m 49 ((wr (i : Int)).toNat) (nxC m))) = 103 → wr (nxC (zu m 49 ((wr (i : Int)).toNat) (nxC m))) = 109 → ¬ wr (nxC (zu (zu m 49 ((wr (i : Int)).toNat) (nxC m)) 2 3 ((m 2 3) + 1))) < 48 → 57 < wr (nxC (zu (zu m 49 ((wr (i : Int)).toNat) (nxC m)) 2 3 ((m 2 3) + 1))) → wr ((zu (zu (zu m 49 ((wr (i : Int)).toNat) (nxC m)) 2 3 ((m 2 3) + 1)) 50 ((wr (i : Int)).toNat) (-1)) 50 ((wr (i : Int)).toNat)) = (-1) → κ (some (zi 0)) (zu (zu (zu m 49 ((wr (i : Int)).toNat) (nxC m)) 2 3 ((m 2 3) + 1)) 50 ((wr (i : Int)).toNat) (-1)))
    (o62 : ¬ wr (nxC (zu m 49 ((wr (i : Int)).toNat) (nxC m))) = 107 → ¬ wr (nxC (zu m 49 ((wr (i : Int)).toNat) (nxC m))) = 119 → ¬ wr (nxC (zu m 49 ((wr (i : Int)).toNat) (nxC m))) = 103 → wr (nxC (zu m 49 ((wr (i : Int)).toNat) (nxC m))) = 109 → ¬ wr (nxC (zu (zu m 49 ((wr (i : Int)).toNat) (nxC m)) 2 3 ((m 2 3) + 1))) < 48 → 57 < wr (nxC (zu (zu m 49 ((wr (i : Int)).toNat) (nxC m)) 2 3 ((m 2 3) + 1))) → ¬ wr ((zu (zu (zu m 49 ((wr (i : Int)).toNat) (nxC m)) 2 3 ((m 2 3) + 1)) 50 ((wr (i : Int)).toNat) (-1)) 50 ((wr (i : Int)).toNat)) = (-1) → False)
    (o63 : ¬ wr (nxC (zu m 49 ((wr (i : Int)).toNat) (nxC m))) = 107 → ¬ wr (nxC (zu m 49 ((wr (i : Int)).toNat) (nxC m))) = 119 → ¬ wr (nxC (zu m 49 ((wr (i : Int)).toNat) (nxC m))) = 103 → ¬ wr (nxC (zu m 49 ((wr (i : Int)).toNat) (nxC m))) = 109 → κ (some (zi 0)) (zu m 49 ((wr (i : Int)).toNat) (nxC m))) :
    T (D + 3) 108 (0, [(0, zr 48), (1, zr 2), (2, zi (i : Int))], [], m) κ :=
  hT.1 [] 6 (D + 3) 108 _ κ (z_next hT (o1) (o2) (o3) (hT.1 [] 6 (D + 3) 108 _ _ (And.intro (And.intro (o4) trivial) (hT.1 [] 6 (D + 2) 70 _ _ (z_next hT (o5) (o6) (o7) (hT.1 [] 6 (D + 2) 70 _ _ (And.intro (fun a1 => (hT.1 [] 6 (D + 2) 70 (16, [(0, zr 2), (1, zi 107)], [zi 1, zi (m 2 3), zr 2], (zu m 49 ((wr (i : Int)).toNat) (nxC m))) _ (And.intro trivial (And.intro (z_b01L rfl) (hT.1 [] 6 (D + 3) 108 _ _ (And.intro (fun a3 => (z_litF a3 rfl).elim) (fun _ => (o8 a1)))))))) (fun a2 => (And.intro (z_b01L rfl) (hT.1 [] 6 (D + 3) 108 _ _ (And.intro (fun _ => (hT.1 [] 6 (D + 2) 70 _ _ (z_next hT (o9 a2) (o10 a2) (o11 a2) (hT.1 [] 6 (D + 2) 70 _ _ (And.intro (fun a5 => (hT.1 [] 6 (D + 2) 70 (16, [(0, zr 2), (1, zi 119)], [zi 1, zi (m 2 3), zr 2], (zu m 49 ((wr (i : Int)).toNat) (nxC m))) _ (And.intro trivial (And.intro (z_b01L rfl) (hT.1 [] 6 (D + 3) 108 _ _ (And.intro (fun _ => (hT.1 [] 6 (D + 3) 108 (62, [(0, zr 48), (1, zr 2), (2, zi (i : Int))], [zi 0, zr 2, zi (i : Int), zr 50], (zu (zu m 49 ((wr (i : Int)).toNat) (nxC m)) 2 3 ((m 2 3) + 1))) _ (hT.1 [] 6 (D + 2) 71 _ _ (z_next hT (o12 a2 a5) (o13 a2 a5) (o14 a2 a5) (hT.1 [] 6 (D + 2) 71 _ _ (And.intro (fun a8 => (hT.1 [] 6 (D + 2) 71 (21, [(0, zr 2), (1, zi 0), (2, zi 9), (3, zi (nxC (zu (zu m 49 ((wr (i : Int)).toNat) (nxC m)) 2 3 ((m 2 3) + 1))))], [], (zu (zu m 49 ((wr (i : Int)).toNat) (nxC m)) 2 3 ((m 2 3) + 1))) _ (hT.1 [] 6 (D + 3) 108 _ _ (And.intro (And.intro (o15 a2 a5 a8) trivial) (And.intro (o16 a2 a5 a8) (hT.1 [] 6 (D + 3) 108 (75, [(0, zr 48), (1, zr 2), (2, zi (i : Int))], [zi (-1), zi ((zu (zu (zu m 49 ((wr (i : Int)).toNat) (nxC m)) 2 3 ((m 2 3) + 1)) 50 ((wr (i : Int)).toNat) (-1)) 50 ((wr (i : Int)).toNat))], (zu (zu (zu m 49 ((wr (i : Int)).toNat) (nxC m)) 2 3 ((m 2 3) + 1)) 50 ((wr (i : Int)).toNat) (-1))) _ (And.intro (fun a10 => (And.intro (z_b01L rfl) (o17 a2 a5 a8 a10))) (fun a11 => (o18 a2 a5 a8 a11).elim)))))))) (fun a9 => (hT.1 [] 6 (D + 2) 71 (13, [(0, zr 2), (1, zi 0), (2, zi 9), (3, zi (nxC (zu (zu m 49 ((wr (i : Int)).toNat) (nxC m)) 2 3 ((m 2 3) + 1))))], [], (zu (zu m 49 ((wr (i : Int)).toNat) (nxC m)) 2 3 ((m 2 3) + 1))) _ (And.intro (fun a12 => (hT.1 [] 6 (D + 2) 71 (24, [(0, zr 2), (1, zi 0), (2, zi 9), (3, zi (nxC (zu (zu m 49 ((wr (i : Int)).toNat) (nxC m)) 2 3 ((m 2 3) + 1))))], [zr 2], (zu (zu m 49 ((wr (i : Int)).toNat) (nxC m)) 2 3 ((m 2 3) + 1))) _ (And.intro trivial (hT.1 [] 6 (D + 2) 71 (34, [(0, zr 2), (1, zi 0), (2, zi 9), (3, zi (nxC (zu (zu m 49 ((wr (i : Int)).toNat) (nxC m)) 2 3 ((m 2 3) + 1))))], [zi (nxC (zu (zu m 49 ((wr (i : Int)).toNat) (nxC m)) 2 3 ((m 2 3) + 1)))], (zu (zu (zu m 49 ((wr (i : Int)).toNat) (nxC m)) 2 3 ((m 2 3) + 1)) 2 3 (((m 2 3) + 1) + 1))) _ (hT.1 [] 6 (D + 3) 108 _ _ (And.intro (And.intro (o19 a2 a5 a9 a12) trivial) (And.intro (o20 a2 a5 a9 a12) (hT.1 [] 6 (D + 3) 108 (75, [(0, zr 48), (1, zr 2), (2, zi (i : Int))], [zi (-1), zi ((zu (zu (zu (zu m 49 ((wr (i : Int)).toNat) (nxC m)) 2 3 ((m 2 3) + 1)) 2 3 (((m 2 3) + 1) + 1)) 50 ((wr (i : Int)).toNat) (wr ((nxC (zu (zu m 49 ((wr (i : Int)).toNat) (nxC m)) 2 3 ((m 2 3) + 1))) - 48))) 50 ((wr (i : Int)).toNat))], (zu (zu (zu (zu m 49 ((wr (i : Int)).toNat) (nxC m)) 2 3 ((m 2 3) + 1)) 2 3 (((m 2 3) + 1) + 1)) 50 ((wr (i : Int)).toNat) (wr ((nxC (zu (zu m 49 ((wr (i : Int)).toNat) (nxC m)) 2 3 ((m 2 3) + 1))) - 48)))) _ (And.intro (fun a14 => (o21 a2 a5 a9 a12 a14).elim) (fun a15 => (o22 a2 a5 a9 a12 a15))))))))))) (fun a13 => (hT.1 [] 6 (D + 2) 71 (22, [(0, zr 2), (1, zi 0), (2, zi 9), (3, zi (nxC (zu (zu m 49 ((wr (i : Int)).toNat) (nxC m)) 2 3 ((m 2 3) + 1))))], [zi (-1)], (zu (zu m 49 ((wr (i : Int)).toNat) (nxC m)) 2 3 ((m 2 3) + 1))) _ (hT.1 [] 6 (D + 3) 108 _ _ (And.intro (And.intro (o23 a2 a5 a9 (Classical.byContradiction a13)) trivial) (And.intro (o24 a2 a5 a9 (Classical.byContradiction a13)) (hT.1 [] 6 (D + 3) 108 (75, [(0, zr 48), (1, zr 2), (2, zi (i : Int))], [zi (-1), zi ((zu (zu (zu m 49 ((wr (i : Int)).toNat) (nxC m)) 2 3 ((m 2 3) + 1)) 50 ((wr (i : Int)).toNat) (-1)) 50 ((wr (i : Int)).toNat))], (zu (zu (zu m 49 ((wr (i : Int)).toNat) (nxC m)) 2 3 ((m 2 3) + 1)) 50 ((wr (i : Int)).toNat) (-1))) _ (And.intro (fun a16 => (And.intro (z_b01L rfl) (o25 a2 a5 a9 (Classical.byContradiction a13) a16))) (fun a17 => (o26 a2 a5 a9 (Classical.byContradiction a13) a17).elim))))))))))))))))) (fun a7 => (a7 (z_litT rfl)).elim))))))) (fun a6 => (And.intro (z_b01L rfl) (hT.1 [] 6 (D + 3) 108 _ _ (And.intro (fun a18 => (z_litF a18 rfl).elim) (fun _ => (hT.1 [] 6 (D + 2) 70 _ _ (z_next hT (o27 a2 a6) (o28 a2 a6) (o29 a2 a6) (hT.1 [] 6 (D + 2) 70 _ _ (And.intro (fun a19 => (hT.1 [] 6 (D + 2) 70 (16, [(0, zr 2), (1, zi 103)], [zi 1, zi (m 2 3), zr 2], (zu m 49 ((wr (i : Int)).toNat) (nxC m))) _ (And.intro trivial (And.intro (z_b01L rfl) (hT.1 [] 6 (D + 3) 108 _ _ (And.intro (fun _ => (hT.1 [] 6 (D + 3) 108 (62, [(0, zr 48), (1, zr 2), (2, zi (i : Int))], [zi 0, zr 2, zi (i : Int), zr 50], (zu (zu m 49 ((wr (i : Int)).toNat) (nxC m)) 2 3 ((m 2 3) + 1))) _ (hT.1 [] 6 (D + 2) 71 _ _ (z_next hT (o30 a2 a6 a19) (o31 a2 a6 a19) (o32 a2 a6 a19) (hT.1 [] 6 (D + 2) 71 _ _ (And.intro (fun a22 => (hT.1 [] 6 (D + 2) 71 (21, [(0, zr 2), (1, zi 0), (2, zi 9), (3, zi (nxC (zu (zu m 49 ((wr (i : Int)).toNat) (nxC m)) 2 3 ((m 2 3) + 1))))], [], (zu (zu m 49 ((wr (i : Int)).toNat) (nxC m)) 2 3 ((m 2 3) + 1))) _ (hT.1 [] 6 (D + 3) 108 _ _ (And.intro (And.intro (o33 a2 a6 a19 a22) trivial) (And.intro (o34 a2 a6 a19 a22) (hT.1 [] 6 (D + 3) 108 (75, [(0, zr 48), (1, zr 2), (2, zi (i : Int))], [zi (-1), zi ((zu (zu (zu m 49 ((wr (i : Int)).toNat) (nxC m)) 2 3 ((m 2 3) + 1)) 50 ((wr (i : Int)).toNat) (-1)) 50 ((wr (i : Int)).toNat))], (zu (zu (zu m 49 ((wr (i : Int)).toNat) (nxC m)) 2 3 ((m 2 3) + 1)) 50 ((wr (i : Int)).toNat) (-1))) _ (And.intro (fun a24 => (And.intro (z_b01L rfl) (o35 a2 a6 a19 a22 a24))) (fun a25 => (o36 a2 a6 a19 a22 a25).elim)))))))) (fun a23 => (hT.1 [] 6 (D + 2) 71 (13, [(0, zr 2), (1, zi 0), (2, zi 9), (3, zi (nxC (zu (zu m 49 ((wr (i : Int)).toNat) (nxC m)) 2 3 ((m 2 3) + 1))))], [], (zu (zu m 49 ((wr (i : Int)).toNat) (nxC m)) 2 3 ((m 2 3) + 1))) _ (And.intro (fun a26 => (hT.1 [] 6 (D + 2) 71 (24, [(0, zr 2), (1, zi 0), (2, zi 9), (3, zi (nxC (zu (zu m 49 ((wr (i : Int)).toNat) (nxC m)) 2 3 ((m 2 3) + 1))))], [zr 2], (zu (zu m 49 ((wr (i : Int)).toNat) (nxC m)) 2 3 ((m 2 3) + 1))) _ (And.intro trivial (hT.1 [] 6 (D + 2) 71 (34, [(0, zr 2), (1, zi 0), (2, zi 9), (3, zi (nxC (zu (zu m 49 ((wr (i : Int)).toNat) (nxC m)) 2 3 ((m 2 3) + 1))))], [zi (nxC (zu (zu m 49 ((wr (i : Int)).toNat) (nxC m)) 2 3 ((m 2 3) + 1)))], (zu (zu (zu m 49 ((wr (i : Int)).toNat) (nxC m)) 2 3 ((m 2 3) + 1)) 2 3 (((m 2 3) + 1) + 1))) _ (hT.1 [] 6 (D + 3) 108 _ _ (And.intro (And.intro (o37 a2 a6 a19 a23 a26) trivial) (And.intro (o38 a2 a6 a19 a23 a26) (hT.1 [] 6 (D + 3) 108 (75, [(0, zr 48), (1, zr 2), (2, zi (i : Int))], [zi (-1), zi ((zu (zu (zu (zu m 49 ((wr (i : Int)).toNat) (nxC m)) 2 3 ((m 2 3) + 1)) 2 3 (((m 2 3) + 1) + 1)) 50 ((wr (i : Int)).toNat) (wr ((nxC (zu (zu m 49 ((wr (i : Int)).toNat) (nxC m)) 2 3 ((m 2 3) + 1))) - 48))) 50 ((wr (i : Int)).toNat))], (zu (zu (zu (zu m 49 ((wr (i : Int)).toNat) (nxC m)) 2 3 ((m 2 3) + 1)) 2 3 (((m 2 3) + 1) + 1)) 50 ((wr (i : Int)).toNat) (wr ((nxC (zu (zu m 49 ((wr (i : Int)).toNat) (nxC m)) 2 3 ((m 2 3) + 1))) - 48)))) _ (And.intro (fun a28 => (o39 a2 a6 a19 a23 a26 a28).elim) (fun a29 => (o40 a2 a6 a19 a23 a26 a29))))))))))) (fun a27 => (hT.1 [] 6 (D + 2) 71 (22, [(0, zr 2), (1, zi 0), (2, zi 9), (3, zi (nxC (zu (zu m 49 ((wr (i : Int)).toNat) (nxC m)) 2 3 ((m 2 3) + 1))))], [zi (-1)], (zu (zu m 49 ((wr (i : Int)).toNat) (nxC m)) 2 3 ((m 2 3) + 1))) _ (hT.1 [] 6 (D + 3) 108 _ _ (And.intro (And.intro (o41 a2 a6 a19 a23 (Classical.byContradiction a27)) trivial) (And.intro (o42 a2 a6 a19 a23 (Classical.byContradiction a27)) (hT.1 [] 6 (D + 3) 108 (75, [(0, zr 48), (1, zr 2), (2, zi (i : Int))], [zi (-1), zi ((zu (zu (zu m 49 ((wr (i : Int)).toNat) (nxC m)) 2 3 ((m 2 3) + 1)) 50 ((wr (i : Int)).toNat) (-1)) 50 ((wr (i : Int)).toNat))], (zu (zu (zu m 49 ((wr (i : Int)).toNat) (nxC m)) 2 3 ((m 2 3) + 1)) 50 ((wr (i : Int)).toNat) (-1))) _ (And.intro (fun a30 => (And.intro (z_b01L rfl) (o43 a2 a6 a19 a23 (Classical.byContradiction a27) a30))) (fun a31 => (o44 a2 a6 a19 a23 (Classical.byContradiction a27) a31).elim))))))))))))))))) (fun a21 => (a21 (z_litT rfl)).elim))))))) (fun a20 => (And.intro (z_b01L rfl) (hT.1 [] 6 (D + 3) 108 _ _ (And.intro (fun a32 => (z_litF a32 rfl).elim) (fun _ => (hT.1 [] 6 (D + 2) 70 _ _ (z_next hT (o45 a2 a6 a20) (o46 a2 a6 a20) (o47 a2 a6 a20) (hT.1 [] 6 (D + 2) 70 _ _ (And.intro (fun a33 => (hT.1 [] 6 (D + 2) 70 (16, [(0, zr 2), (1, zi 109)], [zi 1, zi (m 2 3), zr 2], (zu m 49 ((wr (i : Int)).toNat) (nxC m))) _ (And.intro trivial (And.intro (z_b01L rfl) (hT.1 [] 6 (D + 3) 108 _ _ (And.intro (fun _ => (hT.1 [] 6 (D + 3) 108 (62, [(0, zr 48), (1, zr 2), (2, zi (i : Int))], [zi 0, zr 2, zi (i : Int), zr 50], (zu (zu m 49 ((wr (i : Int)).toNat) (nxC m)) 2 3 ((m 2 3) + 1))) _ (hT.1 [] 6 (D + 2) 71 _ _ (z_next hT (o48 a2 a6 a20 a33) (o49 a2 a6 a20 a33) (o50 a2 a6 a20 a33) (hT.1 [] 6 (D + 2) 71 _ _ (And.intro (fun a36 => (hT.1 [] 6 (D + 2) 71 (21, [(0, zr 2), (1, zi 0), (2, zi 9), (3, zi (nxC (zu (zu m 49 ((wr (i : Int)).toNat) (nxC m)) 2 3 ((m 2 3) + 1))))], [], (zu (zu m 49 ((wr (i : Int)).toNat) (nxC m)) 2 3 ((m 2 3) + 1))) _ (hT.1 [] 6 (D + 3) 108 _ _ (And.intro (And.intro (o51 a2 a6 a20 a33 a36) trivial) (And.intro (o52 a2 a6 a20 a33 a36) (hT.1 [] 6 (D + 3) 108 (75, [(0, zr 48), (1, zr 2), (2, zi (i : Int))], [zi (-1), zi ((zu (zu (zu m 49 ((wr (i : Int)).toNat) (nxC m)) 2 3 ((m 2 3) + 1)) 50 ((wr (i : Int)).toNat) (-1)) 50 ((wr (i : Int)).toNat))], (zu (zu (zu m 49 ((wr (i : Int)).toNat) (nxC m)) 2 3 ((m 2 3) + 1)) 50 ((wr (i : Int)).toNat) (-1))) _ (And.intro (fun a38 => (And.intro (z_b01L rfl) (o53 a2 a6 a20 a33 a36 a38))) (fun a39 => (o54 a2 a6 a20 a33 a36 a39).elim)))))))) (fun a37 => (hT.1 [] 6 (D + 2) 71 (13, [(0, zr 2), (1, zi 0), (2, zi 9), (3, zi (nxC (zu (zu m 49 ((wr (i : Int)).toNat) (nxC m)) 2 3 ((m 2 3) + 1))))], [], (zu (zu m 49 ((wr (i : Int)).toNat) (nxC m)) 2 3 ((m 2 3) + 1))) _ (And.intro (fun a40 => (hT.1 [] 6 (D + 2) 71 (24, [(0, zr 2), (1, zi 0), (2, zi 9), (3, zi (nxC (zu (zu m 49 ((wr (i : Int)).toNat) (nxC m)) 2 3 ((m 2 3) + 1))))], [zr 2], (zu (zu m 49 ((wr (i : Int)).toNat) (nxC m)) 2 3 ((m 2 3) + 1))) _ (And.intro trivial (hT.1 [] 6 (D + 2) 71 (34, [(0, zr 2), (1, zi 0), (2, zi 9), (3, zi (nxC (zu (zu m 49 ((wr (i : Int)).toNat) (nxC m)) 2 3 ((m 2 3) + 1))))], [zi (nxC (zu (zu m 49 ((wr (i : Int)).toNat) (nxC m)) 2 3 ((m 2 3) + 1)))], (zu (zu (zu m 49 ((wr (i : Int)).toNat) (nxC m)) 2 3 ((m 2 3) + 1)) 2 3 (((m 2 3) + 1) + 1))) _ (hT.1 [] 6 (D + 3) 108 _ _ (And.intro (And.intro (o55 a2 a6 a20 a33 a37 a40) trivial) (And.intro (o56 a2 a6 a20 a33 a37 a40) (hT.1 [] 6 (D + 3) 108 (75, [(0, zr 48), (1, zr 2), (2, zi (i : Int))], [zi (-1), zi ((zu (zu (zu (zu m 49 ((wr (i : Int)).toNat) (nxC m)) 2 3 ((m 2 3) + 1)) 2 3 (((m 2 3) + 1) + 1)) 50 ((wr (i : Int)).toNat) (wr ((nxC (zu (zu m 49 ((wr (i : Int)).toNat) (nxC m)) 2 3 ((m 2 3) + 1))) - 48))) 50 ((wr (i : Int)).toNat))], (zu (zu (zu (zu m 49 ((wr (i : Int)).toNat) (nxC m)) 2 3 ((m 2 3) + 1)) 2 3 (((m 2 3) + 1) + 1)) 50 ((wr (i : Int)).toNat) (wr ((nxC (zu (zu m 49 ((wr (i : Int)).toNat) (nxC m)) 2 3 ((m 2 3) + 1))) - 48)))) _ (And.intro (fun a42 => (o57 a2 a6 a20 a33 a37 a40 a42).elim) (fun a43 => (o58 a2 a6 a20 a33 a37 a40 a43))))))))))) (fun a41 => (hT.1 [] 6 (D + 2) 71 (22, [(0, zr 2), (1, zi 0), (2, zi 9), (3, zi (nxC (zu (zu m 49 ((wr (i : Int)).toNat) (nxC m)) 2 3 ((m 2 3) + 1))))], [zi (-1)], (zu (zu m 49 ((wr (i : Int)).toNat) (nxC m)) 2 3 ((m 2 3) + 1))) _ (hT.1 [] 6 (D + 3) 108 _ _ (And.intro (And.intro (o59 a2 a6 a20 a33 a37 (Classical.byContradiction a41)) trivial) (And.intro (o60 a2 a6 a20 a33 a37 (Classical.byContradiction a41)) (hT.1 [] 6 (D + 3) 108 (75, [(0, zr 48), (1, zr 2), (2, zi (i : Int))], [zi (-1), zi ((zu (zu (zu m 49 ((wr (i : Int)).toNat) (nxC m)) 2 3 ((m 2 3) + 1)) 50 ((wr (i : Int)).toNat) (-1)) 50 ((wr (i : Int)).toNat))], (zu (zu (zu m 49 ((wr (i : Int)).toNat) (nxC m)) 2 3 ((m 2 3) + 1)) 50 ((wr (i : Int)).toNat) (-1))) _ (And.intro (fun a44 => (And.intro (z_b01L rfl) (o61 a2 a6 a20 a33 a37 (Classical.byContradiction a41) a44))) (fun a45 => (o62 a2 a6 a20 a33 a37 (Classical.byContradiction a41) a45).elim))))))))))))))))) (fun a35 => (a35 (z_litT rfl)).elim))))))) (fun a34 => (And.intro (z_b01L rfl) (hT.1 [] 6 (D + 3) 108 _ _ (And.intro (fun a46 => (z_litF a46 rfl).elim) (fun _ => (And.intro (z_b01L rfl) (o63 a2 a6 a20 a34)))))))))))))))))))))))))))))) (fun a4 => (a4 (z_litT rfl)).elim))))))))))))
theorem zb108_0 (hT : zRules T) {D : Nat} {κ : Option zA → zM → Prop} {m : zM} {i : Nat}  (hB : zB m) (h_i : i ≤ 29) (hf0 : 0 ≤ m 2 3 ∧ m 2 3 ≤ 60) 
    (k1 : (nxC (zu m 49 i (nxC m))) = 107 → zB (zu (zu m 49 i (nxC m)) 2 3 ((m 2 3) + 1)) → T (D + 2) 109 (0, [(0, zr 48), (1, zr 2), (2, zi (i : Int))], [], (zu (zu m 49 i (nxC m)) 2 3 ((m 2 3) + 1))) (fun r m1 => T (D + 3) 108 (25, [(0, zr 48), (1, zr 2), (2, zi (i : Int))], r.toList ++ [], m1) κ))
    (k2 : ¬ (nxC (zu m 49 i (nxC m))) = 107 → (nxC (zu m 49 i (nxC m))) = 119 → (nxC (zu (zu m 49 i (nxC m)) 2 3 ((m 2 3) + 1))) < 48 → zB (zu (zu (zu m 49 i (nxC m)) 2 3 ((m 2 3) + 1)) 50 i (-1)) → κ (some (zi 0)) (zu (zu (zu m 49 i (nxC m)) 2 3 ((m 2 3) + 1)) 50 i (-1)))
    (k3 : ¬ (nxC (zu m 49 i (nxC m))) = 107 → (nxC (zu m 49 i (nxC m))) = 119 → ¬ (nxC (zu (zu m 49 i (nxC m)) 2 3 ((m 2 3) + 1))) < 48 → ¬ 57 < (nxC (zu (zu m 49 i (nxC m)) 2 3 ((m 2 3) + 1))) → zB (zu (zu (zu (zu m 49 i (nxC m)) 2 3 ((m 2 3) + 1)) 2 3 (((m 2 3) + 1) + 1)) 50 i ((nxC (zu (zu m 49 i (nxC m)) 2 3 ((m 2 3) + 1))) - 48)) → T (D + 2) 110 (0, [(0, zr 48), (1, zr 2), (2, zi (i : Int))], [], (zu (zu (zu (zu m 49 i (nxC m)) 2 3 ((m 2 3) + 1)) 2 3 (((m 2 3) + 1) + 1)) 50 i ((nxC (zu (zu m 49 i (nxC m)) 2 3 ((m 2 3) + 1))) - 48))) (fun r m1 => T (D + 3) 108 (84, [(0, zr 48), (1, zr 2), (2, zi (i : Int))], r.toList ++ [], m1) κ))
    (k4 : ¬ (nxC (zu m 49 i (nxC m))) = 107 → (nxC (zu m 49 i (nxC m))) = 119 → ¬ (nxC (zu (zu m 49 i (nxC m)) 2 3 ((m 2 3) + 1))) < 48 → 57 < (nxC (zu (zu m 49 i (nxC m)) 2 3 ((m 2 3) + 1))) → zB (zu (zu (zu m 49 i (nxC m)) 2 3 ((m 2 3) + 1)) 50 i (-1)) → κ (some (zi 0)) (zu (zu (zu m 49 i (nxC m)) 2 3 ((m 2 3) + 1)) 50 i (-1)))
    (k5 : ¬ (nxC (zu m 49 i (nxC m))) = 107 → ¬ (nxC (zu m 49 i (nxC m))) = 119 → (nxC (zu m 49 i (nxC m))) = 103 → (nxC (zu (zu m 49 i (nxC m)) 2 3 ((m 2 3) + 1))) < 48 → zB (zu (zu (zu m 49 i (nxC m)) 2 3 ((m 2 3) + 1)) 50 i (-1)) → κ (some (zi 0)) (zu (zu (zu m 49 i (nxC m)) 2 3 ((m 2 3) + 1)) 50 i (-1)))
    (k6 : ¬ (nxC (zu m 49 i (nxC m))) = 107 → ¬ (nxC (zu m 49 i (nxC m))) = 119 → (nxC (zu m 49 i (nxC m))) = 103 → ¬ (nxC (zu (zu m 49 i (nxC m)) 2 3 ((m 2 3) + 1))) < 48 → ¬ 57 < (nxC (zu (zu m 49 i (nxC m)) 2 3 ((m 2 3) + 1))) → zB (zu (zu (zu (zu m 49 i (nxC m)) 2 3 ((m 2 3) + 1)) 2 3 (((m 2 3) + 1) + 1)) 50 i ((nxC (zu (zu m 49 i (nxC m)) 2 3 ((m 2 3) + 1))) - 48)) → T (D + 2) 110 (0, [(0, zr 48), (1, zr 2), (2, zi (i : Int))], [], (zu (zu (zu (zu m 49 i (nxC m)) 2 3 ((m 2 3) + 1)) 2 3 (((m 2 3) + 1) + 1)) 50 i ((nxC (zu (zu m 49 i (nxC m)) 2 3 ((m 2 3) + 1))) - 48))) (fun r m1 => T (D + 3) 108 (84, [(0, zr 48), (1, zr 2), (2, zi (i : Int))], r.toList ++ [], m1) κ))
    (k7 : ¬ (nxC (zu m 49 i (nxC m))) = 107 → ¬ (nxC (zu m 49 i (nxC m))) = 119 → (nxC (zu m 49 i (nxC m))) = 103 → ¬ (nxC (zu (zu m 49 i (nxC m)) 2 3 ((m 2 3) + 1))) < 48 → 57 < (nxC (zu (zu m 49 i (nxC m)) 2 3 ((m 2 3) + 1))) → zB (zu (zu (zu m 49 i (nxC m)) 2 3 ((m 2 3) + 1)) 50 i (-1)) → κ (some (zi 0)) (zu (zu (zu m 49 i (nxC m)) 2 3 ((m 2 3) + 1)) 50 i (-1)))
    (k8 : ¬ (nxC (zu m 49 i (nxC m))) = 107 → ¬ (nxC (zu m 49 i (nxC m))) = 119 → ¬ (nxC (zu m 49 i (nxC m))) = 103 → (nxC (zu m 49 i (nxC m))) = 109 → (nxC (zu (zu m 49 i (nxC m)) 2 3 ((m 2 3) + 1))) < 48 → zB (zu (zu (zu m 49 i (nxC m)) 2 3 ((m 2 3) + 1)) 50 i (-1)) → κ (some (zi 0)) (zu (zu (zu m 49 i (nxC m)) 2 3 ((m 2 3) + 1)) 50 i (-1)))
    (k9 : ¬ (nxC (zu m 49 i (nxC m))) = 107 → ¬ (nxC (zu m 49 i (nxC m))) = 119 → ¬ (nxC (zu m 49 i (nxC m))) = 103 → (nxC (zu m 49 i (nxC m))) = 109 → ¬ (nxC (zu (zu m 49 i (nxC m)) 2 3 ((m 2 3) + 1))) < 48 → ¬ 57 < (nxC (zu (zu m 49 i (nxC m)) 2 3 ((m 2 3) + 1))) → zB (zu (zu (zu (zu m 49 i (nxC m)) 2 3 ((m 2 3) + 1)) 2 3 (((m 2 3) + 1) + 1)) 50 i ((nxC (zu (zu m 49 i (nxC m)) 2 3 ((m 2 3) + 1))) - 48)) → T (D + 2) 110 (0, [(0, zr 48), (1, zr 2), (2, zi (i : Int))], [], (zu (zu (zu (zu m 49 i (nxC m)) 2 3 ((m 2 3) + 1)) 2 3 (((m 2 3) + 1) + 1)) 50 i ((nxC (zu (zu m 49 i (nxC m)) 2 3 ((m 2 3) + 1))) - 48))) (fun r m1 => T (D + 3) 108 (84, [(0, zr 48), (1, zr 2), (2, zi (i : Int))], r.toList ++ [], m1) κ))
    (k10 : ¬ (nxC (zu m 49 i (nxC m))) = 107 → ¬ (nxC (zu m 49 i (nxC m))) = 119 → ¬ (nxC (zu m 49 i (nxC m))) = 103 → (nxC (zu m 49 i (nxC m))) = 109 → ¬ (nxC (zu (zu m 49 i (nxC m)) 2 3 ((m 2 3) + 1))) < 48 → 57 < (nxC (zu (zu m 49 i (nxC m)) 2 3 ((m 2 3) + 1))) → zB (zu (zu (zu m 49 i (nxC m)) 2 3 ((m 2 3) + 1)) 50 i (-1)) → κ (some (zi 0)) (zu (zu (zu m 49 i (nxC m)) 2 3 ((m 2 3) + 1)) 50 i (-1)))
    (k11 : ¬ (nxC (zu m 49 i (nxC m))) = 107 → ¬ (nxC (zu m 49 i (nxC m))) = 119 → ¬ (nxC (zu m 49 i (nxC m))) = 103 → ¬ (nxC (zu m 49 i (nxC m))) = 109 → zB (zu m 49 i (nxC m)) → κ (some (zi 0)) (zu m 49 i (nxC m))) :
    T (D + 3) 108 (0, [(0, zr 48), (1, zr 2), (2, zi (i : Int))], [], m) κ := by
  have hb2 : 0 ≤ (m 2 2) ∧ (m 2 2) ≤ 80 := hB 2 2
  have hb3 : (-1) ≤ (nxC m) ∧ (nxC m) ≤ 65535 := nxCBo m (fun j => hB 3 j)
  have hb4 : (-1) ≤ (nxC (zu m 49 i (nxC m))) ∧ (nxC (zu m 49 i (nxC m))) ≤ 65535 := nxCBo (zu m 49 i (nxC m)) (fun j => hB 3 j)
  have hb5 : (-1) ≤ (nxC (zu (zu m 49 i (nxC m)) 2 3 ((m 2 3) + 1))) ∧ (nxC (zu (zu m 49 i (nxC m)) 2 3 ((m 2 3) + 1))) ≤ 65535 := nxCBo (zu (zu m 49 i (nxC m)) 2 3 ((m 2 3) + 1)) (fun j => hB 3 j)
  have hb6 : (-1) ≤ ((zu (zu (zu m 49 i (nxC m)) 2 3 ((m 2 3) + 1)) 50 i (-1)) 50 i) ∧ ((zu (zu (zu m 49 i (nxC m)) 2 3 ((m 2 3) + 1)) 50 i (-1)) 50 i) ≤ (-1) := (by rw [show ((zu (zu (zu m 49 i (nxC m)) 2 3 ((m 2 3) + 1)) 50 i (-1)) 50 i) = (-1) from (zu_sm (by omega))]; exact ⟨Int.le_refl _, Int.le_refl _⟩)
  have he0 : wr (i : Int) = (i : Int) := wr_id (by omega) (by omega)
  have he1 : (i : Int).toNat = i := by omega
  have he2 : wr (nxC (zu m 49 i (nxC m))) = (nxC (zu m 49 i (nxC m))) := wr_id (by omega) (by omega)
  have he3 : wr (nxC (zu (zu m 49 i (nxC m)) 2 3 ((m 2 3) + 1))) = (nxC (zu (zu m 49 i (nxC m)) 2 3 ((m 2 3) + 1))) := wr_id (by omega) (by omega)
  have he4 : wr ((zu (zu (zu m 49 i (nxC m)) 2 3 ((m 2 3) + 1)) 50 i (-1)) 50 i) = ((zu (zu (zu m 49 i (nxC m)) 2 3 ((m 2 3) + 1)) 50 i (-1)) 50 i) := wr_id (by omega) (by omega)
  have he5 : wr ((nxC (zu (zu m 49 i (nxC m)) 2 3 ((m 2 3) + 1))) - 48) = ((nxC (zu (zu m 49 i (nxC m)) 2 3 ((m 2 3) + 1))) - 48) := wr_id (by omega) (by omega)
  have he6 : ((zu (zu (zu (zu m 49 i (nxC m)) 2 3 ((m 2 3) + 1)) 2 3 (((m 2 3) + 1) + 1)) 50 i ((nxC (zu (zu m 49 i (nxC m)) 2 3 ((m 2 3) + 1))) - 48)) 50 i) = ((nxC (zu (zu m 49 i (nxC m)) 2 3 ((m 2 3) + 1))) - 48) := (zu_sm (by omega))
  have key := @zb108_0r T hT D κ m i
  simp only [he0, he1, he2, he3, he4, he5, he6, Int.toNat_natCast] at key
  exact key
    (fun j => hB 3 j)
    (by refine ⟨?_, ?_⟩ <;> omega)
    (by refine ⟨?_, ?_⟩ <;> omega)
    (by refine ⟨?_, ?_⟩ <;> omega)
    (fun j => hB 3 j)
    (by refine ⟨?_, ?_⟩ <;> omega)
    (by refine ⟨?_, ?_⟩ <;> omega)
    (fun x0 => k1 x0 (zB_u (zB_u hB trivial) (show (-1) ≤ ((m 2 3) + 1) ∧ ((m 2 3) + 1) ≤ 100 from ⟨by omega, by omega⟩)))
    (fun x0 => fun j => hB 3 j)
    (fun x0 => by refine ⟨?_, ?_⟩ <;> omega)
    (fun x0 => by refine ⟨?_, ?_⟩ <;> omega)
    (fun x0 x1 => fun j => hB 3 j)
    (fun x0 x1 => by refine ⟨?_, ?_⟩ <;> omega)
    (fun x0 x1 => by refine ⟨?_, ?_⟩ <;> omega)
    (fun x0 x1 x2 => by refine ⟨?_, ?_⟩ <;> omega)
    (fun x0 x1 x2 => by refine ⟨?_, ?_⟩ <;> omega)
    (fun x0 x1 x2 x3 => k2 x0 x1 x2 (zB_u (zB_u (zB_u hB trivial) (show (-1) ≤ ((m 2 3) + 1) ∧ ((m 2 3) + 1) ≤ 100 from ⟨by omega, by omega⟩)) trivial))
    (fun x0 x1 x2 x3 => by omega)
    (fun x0 x1 x2 x3 => by refine ⟨?_, ?_⟩ <;> omega)
    (fun x0 x1 x2 x3 => by refine ⟨?_, ?_⟩ <;> omega)
    (fun x0 x1 x2 x3 x4 => by omega)
    (fun x0 x1 x2 x3 x4 => k3 x0 x1 x2 x3 (zB_u (zB_u (zB_u (zB_u hB trivial) (show (-1) ≤ ((m 2 3) + 1) ∧ ((m 2 3) + 1) ≤ 100 from ⟨by omega, by omega⟩)) (show (-1) ≤ (((m 2 3) + 1) + 1) ∧ (((m 2 3) + 1) + 1) ≤ 100 from ⟨by omega, by omega⟩)) trivial))
    (fun x0 x1 x2 x3 => by refine ⟨?_, ?_⟩ <;> omega)
    (fun x0 x1 x2 x3 => by refine ⟨?_, ?_⟩ <;> omega)
    (fun x0 x1 x2 x3 x4 => k4 x0 x1 x2 x3 (zB_u (zB_u (zB_u hB trivial) (show (-1) ≤ ((m 2 3) + 1) ∧ ((m 2 3) + 1) ≤ 100 from ⟨by omega, by omega⟩)) trivial))
    (fun x0 x1 x2 x3 x4 => by omega)
    (fun x0 x1 => fun j => hB 3 j)
    (fun x0 x1 => by refine ⟨?_, ?_⟩ <;> omega)
    (fun x0 x1 => by refine ⟨?_, ?_⟩ <;> omega)
    (fun x0 x1 x2 => fun j => hB 3 j)
    (fun x0 x1 x2 => by refine ⟨?_, ?_⟩ <;> omega)
    (fun x0 x1 x2 => by refine ⟨?_, ?_⟩ <;> omega)
    (fun x0 x1 x2 x3 => by refine ⟨?_, ?_⟩ <;> omega)
    (fun x0 x1 x2 x3 => by refine ⟨?_, ?_⟩ <;> omega)
    (fun x0 x1 x2 x3 x4 => k5 x0 x1 x2 x3 (zB_u (zB_u (zB_u hB trivial) (show (-1) ≤ ((m 2 3) + 1) ∧ ((m 2 3) + 1) ≤ 100 from ⟨by omega, by omega⟩)) trivial))
    (fun x0 x1 x2 x3 x4 => by omega)
    (fun x0 x1 x2 x3 x4 => by refine ⟨?_, ?_⟩ <;> omega)
    (fun x0 x1 x2 x3 x4 => by refine ⟨?_, ?_⟩ <;> omega)
    (fun x0 x1 x2 x3 x4 x5 => by omega)
    (fun x0 x1 x2 x3 x4 x5 => k6 x0 x1 x2 x3 x4 (zB_u (zB_u (zB_u (zB_u hB trivial) (show (-1) ≤ ((m 2 3) + 1) ∧ ((m 2 3) + 1) ≤ 100 from ⟨by omega, by omega⟩)) (show (-1) ≤ (((m 2 3) + 1) + 1) ∧ (((m 2 3) + 1) + 1) ≤ 100 from ⟨by omega, by omega⟩)) trivial))
    (fun x0 x1 x2 x3 x4 => by refine ⟨?_, ?_⟩ <;> omega)
    (fun x0 x1 x2 x3 x4 => by refine ⟨?_, ?_⟩ <;> omega)
    (fun x0 x1 x2 x3 x4 x5 => k7 x0 x1 x2 x3 x4 (zB_u (zB_u (zB_u hB trivial) (show (-1) ≤ ((m 2 3) + 1) ∧ ((m 2 3) + 1) ≤ 100 from ⟨by omega, by omega⟩)) trivial))
    (fun x0 x1 x2 x3 x4 x5 => by omega)
    (fun x0 x1 x2 => fun j => hB 3 j)
    (fun x0 x1 x2 => by refine ⟨?_, ?_⟩ <;> omega)
    (fun x0 x1 x2 => by refine ⟨?_, ?_⟩ <;> omega)
    (fun x0 x1 x2 x3 => fun j => hB 3 j)
    (fun x0 x1 x2 x3 => by refine ⟨?_, ?_⟩ <;> omega)
    (fun x0 x1 x2 x3 => by refine ⟨?_, ?_⟩ <;> omega)
    (fun x0 x1 x2 x3 x4 => by refine ⟨?_, ?_⟩ <;> omega)
    (fun x0 x1 x2 x3 x4 => by refine ⟨?_, ?_⟩ <;> omega)
    (fun x0 x1 x2 x3 x4 x5 => k8 x0 x1 x2 x3 x4 (zB_u (zB_u (zB_u hB trivial) (show (-1) ≤ ((m 2 3) + 1) ∧ ((m 2 3) + 1) ≤ 100 from ⟨by omega, by omega⟩)) trivial))
    (fun x0 x1 x2 x3 x4 x5 => by omega)
    (fun x0 x1 x2 x3 x4 x5 => by refine ⟨?_, ?_⟩ <;> omega)
    (fun x0 x1 x2 x3 x4 x5 => by refine ⟨?_, ?_⟩ <;> omega)
    (fun x0 x1 x2 x3 x4 x5 x6 => by omega)
    (fun x0 x1 x2 x3 x4 x5 x6 => k9 x0 x1 x2 x3 x4 x5 (zB_u (zB_u (zB_u (zB_u hB trivial) (show (-1) ≤ ((m 2 3) + 1) ∧ ((m 2 3) + 1) ≤ 100 from ⟨by omega, by omega⟩)) (show (-1) ≤ (((m 2 3) + 1) + 1) ∧ (((m 2 3) + 1) + 1) ≤ 100 from ⟨by omega, by omega⟩)) trivial))
    (fun x0 x1 x2 x3 x4 x5 => by refine ⟨?_, ?_⟩ <;> omega)
    (fun x0 x1 x2 x3 x4 x5 => by refine ⟨?_, ?_⟩ <;> omega)
    (fun x0 x1 x2 x3 x4 x5 x6 => k10 x0 x1 x2 x3 x4 x5 (zB_u (zB_u (zB_u hB trivial) (show (-1) ≤ ((m 2 3) + 1) ∧ ((m 2 3) + 1) ≤ 100 from ⟨by omega, by omega⟩)) trivial))
    (fun x0 x1 x2 x3 x4 x5 x6 => by omega)
    (fun x0 x1 x2 x3 => k11 x0 x1 x2 x3 (zB_u hB trivial))
theorem zb108_25r (hT : zRules T) {D : Nat} {κ : Option zA → zM → Prop} {m : zM} {v : Int} {lo : zL} (hlo : z_keep [] lo = []) 
    (o1 : (0 ≤ wr v ∧ wr v ≤ 1))
    (o2 : κ (some (zi (wr v))) m) :
    T (D + 3) 108 (25, lo, [zi v], m) κ :=
  zkeep hT hlo (hT.1 [] 6 (D + 3) 108 _ κ (And.intro (o1) (o2)))
theorem zb108_25 (hT : zRules T) {D : Nat} {κ : Option zA → zM → Prop} {m : zM} {v : Int} {lo : zL} (hlo : z_keep [] lo = [])  (h_v : 0 ≤ v ∧ v ≤ 1) 
    (k1 : κ (some (zi v)) m) :
    T (D + 3) 108 (25, lo, [zi v], m) κ := by
  have he0 : wr v = v := wr_id (by omega) (by omega)
  have key := @zb108_25r T hT D κ m v lo hlo
  simp only [he0, Int.toNat_natCast] at key
  exact key
    (by refine ⟨?_, ?_⟩ <;> omega)
    k1
theorem zb108_84r (hT : zRules T) {D : Nat} {κ : Option zA → zM → Prop} {m : zM} {v : Int} {lo : zL} (hlo : z_keep [] lo = []) 
    (o1 : wr v = 0 → κ (some (zi 0)) m)
    (o2 : ¬ wr v = 0 → κ (some (zi 1)) m) :
    T (D + 3) 108 (84, lo, [zi v], m) κ :=
  zkeep hT hlo (hT.1 [] 6 (D + 3) 108 _ κ (And.intro (fun a1 => (And.intro (z_b01L rfl) (o1 a1))) (fun a2 => (And.intro (z_b01L rfl) (o2 a2)))))
theorem zb108_84 (hT : zRules T) {D : Nat} {κ : Option zA → zM → Prop} {m : zM} {v : Int} {lo : zL} (hlo : z_keep [] lo = [])  (h_v : 0 ≤ v ∧ v ≤ 1) 
    (k1 : v = 0 → κ (some (zi 0)) m)
    (k2 : ¬ v = 0 → κ (some (zi 1)) m) :
    T (D + 3) 108 (84, lo, [zi v], m) κ := by
  have he0 : wr v = v := wr_id (by omega) (by omega)
  have key := @zb108_84r T hT D κ m v lo hlo
  simp only [he0, Int.toNat_natCast] at key
  exact key
    k1
    k2
theorem zb109_0r (hT : zRules T) {D : Nat} {κ : Option zA → zM → Prop} {m : zM} {i : Nat} 
    (o1 : ∀ j, zbd 3 j (m 3 j))
    (o2 : (0 ≤ (m 2 3) ∧ (m 2 3) ≤ 1000))
    (o3 : (0 ≤ (m 2 2) ∧ (m 2 2) ≤ 80))
    (o4 : wr (nxC m) < 49 → (0 ≤ wr (i : Int) ∧ wr (i : Int) < 30))
    (o5 : wr (nxC m) < 49 → κ (some (zi 1)) (zu m 50 ((wr (i : Int)).toNat) 1))
    (o6 : ¬ wr (nxC m) < 49 → ¬ 57 < wr (nxC m) → ¬ wr (wr ((nxC m) - 48)) = (-1) → (0 ≤ wr (i : Int) ∧ wr (i : Int) < 30))
    (o7 : ¬ wr (nxC m) < 49 → ¬ 57 < wr (nxC m) → ¬ wr (wr ((nxC m) - 48)) = (-1) → κ (some (zi 1)) (zu (zu m 2 3 ((m 2 3) + 1)) 50 ((wr (i : Int)).toNat) (wr ((nxC m) - 48))))
    (o8 : ¬ wr (nxC m) < 49 → ¬ 57 < wr (nxC m) → wr (wr ((nxC m) - 48)) = (-1) → False)
    (o9 : ¬ wr (nxC m) < 49 → 57 < wr (nxC m) → (0 ≤ wr (i : Int) ∧ wr (i : Int) < 30))
    (o10 : ¬ wr (nxC m) < 49 → 57 < wr (nxC m) → κ (some (zi 1)) (zu m 50 ((wr (i : Int)).toNat) 1)) :
    T (D + 2) 109 (0, [(0, zr 48), (1, zr 2), (2, zi (i : Int))], [], m) κ :=
  hT.1 [] 6 (D + 2) 109 _ κ (hT.1 [] 6 (D + 1) 71 _ _ (z_next hT (o1) (o2) (o3) (hT.1 [] 6 (D + 1) 71 _ _ (And.intro (fun a1 => (hT.1 [] 6 (D + 1) 71 (21, [(0, zr 2), (1, zi 1), (2, zi 9), (3, zi (nxC m))], [], m) _ (hT.1 [] 6 (D + 2) 109 _ _ (hT.1 [] 6 (D + 2) 109 (15, [(0, zr 48), (1, zr 2), (2, zi (i : Int)), (3, zi (-1))], [zi (-1), zi (-1), zi (i : Int), zr 50], m) _ (And.intro (fun a3 => (z_litF a3 rfl).elim) (fun _ => (And.intro (And.intro (o4 a1) trivial) (And.intro (z_b01L rfl) (o5 a1))))))))) (fun a2 => (hT.1 [] 6 (D + 1) 71 (13, [(0, zr 2), (1, zi 1), (2, zi 9), (3, zi (nxC m))], [], m) _ (And.intro (fun a4 => (hT.1 [] 6 (D + 1) 71 (24, [(0, zr 2), (1, zi 1), (2, zi 9), (3, zi (nxC m))], [zr 2], m) _ (And.intro trivial (hT.1 [] 6 (D + 1) 71 (34, [(0, zr 2), (1, zi 1), (2, zi 9), (3, zi (nxC m))], [zi (nxC m)], (zu m 2 3 ((m 2 3) + 1))) _ (hT.1 [] 6 (D + 2) 109 _ _ (hT.1 [] 6 (D + 2) 109 (15, [(0, zr 48), (1, zr 2), (2, zi (i : Int)), (3, zi (wr ((nxC m) - 48)))], [zi (-1), zi (wr ((nxC m) - 48)), zi (i : Int), zr 50], (zu m 2 3 ((m 2 3) + 1))) _ (And.intro (fun a6 => (And.intro (And.intro (o6 a2 a4 a6) trivial) (And.intro (z_b01L rfl) (o7 a2 a4 a6)))) (fun a7 => (o8 a2 a4 (Classical.byContradiction a7)).elim)))))))) (fun a5 => (hT.1 [] 6 (D + 1) 71 (22, [(0, zr 2), (1, zi 1), (2, zi 9), (3, zi (nxC m))], [zi (-1)], m) _ (hT.1 [] 6 (D + 2) 109 _ _ (hT.1 [] 6 (D + 2) 109 (15, [(0, zr 48), (1, zr 2), (2, zi (i : Int)), (3, zi (-1))], [zi (-1), zi (-1), zi (i : Int), zr 50], m) _ (And.intro (fun a8 => (z_litF a8 rfl).elim) (fun _ => (And.intro (And.intro (o9 a2 (Classical.byContradiction a5)) trivial) (And.intro (z_b01L rfl) (o10 a2 (Classical.byContradiction a5)))))))))))))))))
theorem zb109_0 (hT : zRules T) {D : Nat} {κ : Option zA → zM → Prop} {m : zM} {i : Nat}  (hB : zB m) (h_i : i ≤ 29) (hf0 : 0 ≤ m 2 3 ∧ m 2 3 ≤ 61) 
    (k1 : (nxC m) < 49 → zB (zu m 50 i 1) → κ (some (zi 1)) (zu m 50 i 1))
    (k2 : ¬ (nxC m) < 49 → ¬ 57 < (nxC m) → zB (zu (zu m 2 3 ((m 2 3) + 1)) 50 i ((nxC m) - 48)) → κ (some (zi 1)) (zu (zu m 2 3 ((m 2 3) + 1)) 50 i ((nxC m) - 48)))
    (k3 : ¬ (nxC m) < 49 → 57 < (nxC m) → zB (zu m 50 i 1) → κ (some (zi 1)) (zu m 50 i 1)) :
    T (D + 2) 109 (0, [(0, zr 48), (1, zr 2), (2, zi (i : Int))], [], m) κ := by
  have hb2 : 0 ≤ (m 2 2) ∧ (m 2 2) ≤ 80 := hB 2 2
  have hb3 : (-1) ≤ (nxC m) ∧ (nxC m) ≤ 65535 := nxCBo m (fun j => hB 3 j)
  have he0 : wr (nxC m) = (nxC m) := wr_id (by omega) (by omega)
  have he1 : wr (i : Int) = (i : Int) := wr_id (by omega) (by omega)
  have he2 : (i : Int).toNat = i := by omega
  have he3 : wr ((nxC m) - 48) = ((nxC m) - 48) := wr_id (by omega) (by omega)
  have key := @zb109_0r T hT D κ m i
  simp only [he0, he1, he2, he3, Int.toNat_natCast] at key
  exact key
    (fun j => hB 3 j)
    (by refine ⟨?_, ?_⟩ <;> omega)
    (by refine ⟨?_, ?_⟩ <;> omega)
    (fun x0 => by refine ⟨?_, ?_⟩ <;> omega)
    (fun x0 => k1 x0 (zB_u hB trivial))
    (fun x0 x1 x2 => by refine ⟨?_, ?_⟩ <;> omega)
    (fun x0 x1 x2 => k2 x0 x1 (zB_u (zB_u hB (show (-1) ≤ ((m 2 3) + 1) ∧ ((m 2 3) + 1) ≤ 100 from ⟨by omega, by omega⟩)) trivial))
    (fun x0 x1 x2 => by omega)
    (fun x0 x1 => by refine ⟨?_, ?_⟩ <;> omega)
    (fun x0 x1 => k3 x0 x1 (zB_u hB trivial))
theorem zb110_0r (hT : zRules T) {D : Nat} {κ : Option zA → zM → Prop} {m : zM} {i : Nat} 
    (o1 : (0 ≤ wr (i : Int) ∧ wr (i : Int) < 30))
    (o2 : ¬ wr (m 49 ((wr (i : Int)).toNat)) = 119 → (0 ≤ wr (i : Int) ∧ wr (i : Int) < 30))
    (o3 : ¬ wr (m 49 ((wr (i : Int)).toNat)) = 119 → ¬ wr (m 49 ((wr (i : Int)).toNat)) = 119 → (0 ≤ wr (i : Int) ∧ wr (i : Int) < 30))
    (o4 : ¬ wr (m 49 ((wr (i : Int)).toNat)) = 119 → ¬ wr (m 49 ((wr (i : Int)).toNat)) = 119 → ¬ wr (m 49 ((wr (i : Int)).toNat)) = 103 → ∀ j, zbd 3 j (m 3 j))
    (o5 : ¬ wr (m 49 ((wr (i : Int)).toNat)) = 119 → ¬ wr (m 49 ((wr (i : Int)).toNat)) = 119 → ¬ wr (m 49 ((wr (i : Int)).toNat)) = 103 → (0 ≤ (m 2 3) ∧ (m 2 3) ≤ 1000))
    (o6 : ¬ wr (m 49 ((wr (i : Int)).toNat)) = 119 → ¬ wr (m 49 ((wr (i : Int)).toNat)) = 119 → ¬ wr (m 49 ((wr (i : Int)).toNat)) = 103 → (0 ≤ (m 2 2) ∧ (m 2 2) ≤ 80))
    (o7 : ¬ wr (m 49 ((wr (i : Int)).toNat)) = 119 → ¬ wr (m 49 ((wr (i : Int)).toNat)) = 119 → ¬ wr (m 49 ((wr (i : Int)).toNat)) = 103 → wr (nxC m) = 61 → T (D + 1) 72 (0, [(0, zr 2), (1, zi 2)], [], (zu m 2 3 ((m 2 3) + 1))) (fun r m1 => T (D + 2) 110 (101, [(0, zr 48), (1, zr 2), (2, zi (i : Int))], r.toList ++ [zi (i : Int), zr 51], m1) κ))
    (o8 : ¬ wr (m 49 ((wr (i : Int)).toNat)) = 119 → ¬ wr (m 49 ((wr (i : Int)).toNat)) = 119 → ¬ wr (m 49 ((wr (i : Int)).toNat)) = 103 → ¬ wr (nxC m) = 61 → (0 ≤ wr (i : Int) ∧ wr (i : Int) < 30))
    (o9 : ¬ wr (m 49 ((wr (i : Int)).toNat)) = 119 → ¬ wr (m 49 ((wr (i : Int)).toNat)) = 119 → ¬ wr (m 49 ((wr (i : Int)).toNat)) = 103 → ¬ wr (nxC m) = 61 → (0 ≤ wr (i : Int) ∧ wr (i : Int) < 30))
    (o10 : ¬ wr (m 49 ((wr (i : Int)).toNat)) = 119 → ¬ wr (m 49 ((wr (i : Int)).toNat)) = 119 → ¬ wr (m 49 ((wr (i : Int)).toNat)) = 103 → ¬ wr (nxC m) = 61 → wr ((zu m 51 ((wr (i : Int)).toNat) (-1)) 51 ((wr (i : Int)).toNat)) = (-1) → κ (some (zi 0)) (zu m 51 ((wr (i : Int)).toNat) (-1)))
    (o11 : ¬ wr (m 49 ((wr (i : Int)).toNat)) = 119 → ¬ wr (m 49 ((wr (i : Int)).toNat)) = 119 → ¬ wr (m 49 ((wr (i : Int)).toNat)) = 103 → ¬ wr (nxC m) = 61 → ¬ wr ((zu m 51 ((wr (i : Int)).toNat) (-1)) 51 ((wr (i : Int)).toNat)) = (-1) → False)
    (o12 : ¬ wr (m 49 ((wr (i : Int)).toNat)) = 119 → ¬ wr (m 49 ((wr (i : Int)).toNat)) = 119 → wr (m 49 ((wr (i : Int)).toNat)) = 103 → ∀ j, zbd 3 j (m 3 j))
    (o13 : ¬ wr (m 49 ((wr (i : Int)).toNat)) = 119 → ¬ wr (m 49 ((wr (i : Int)).toNat)) = 119 → wr (m 49 ((wr (i : Int)).toNat)) = 103 → (0 ≤ (m 2 3) ∧ (m 2 3) ≤ 1000))
    (o14 : ¬ wr (m 49 ((wr (i : Int)).toNat)) = 119 → ¬ wr (m 49 ((wr (i : Int)).toNat)) = 119 → wr (m 49 ((wr (i : Int)).toNat)) = 103 → (0 ≤ (m 2 2) ∧ (m 2 2) ≤ 80))
    (o15 : ¬ wr (m 49 ((wr (i : Int)).toNat)) = 119 → ¬ wr (m 49 ((wr (i : Int)).toNat)) = 119 → wr (m 49 ((wr (i : Int)).toNat)) = 103 → wr (nxC m) < 48 → (0 ≤ wr (i : Int) ∧ wr (i : Int) < 30))
    (o16 : ¬ wr (m 49 ((wr (i : Int)).toNat)) = 119 → ¬ wr (m 49 ((wr (i : Int)).toNat)) = 119 → wr (m 49 ((wr (i : Int)).toNat)) = 103 → wr (nxC m) < 48 → (0 ≤ wr (i : Int) ∧ wr (i : Int) < 30))
    (o17 : ¬ wr (m 49 ((wr (i : Int)).toNat)) = 119 → ¬ wr (m 49 ((wr (i : Int)).toNat)) = 119 → wr (m 49 ((wr (i : Int)).toNat)) = 103 → wr (nxC m) < 48 → wr ((zu m 51 ((wr (i : Int)).toNat) (-1)) 51 ((wr (i : Int)).toNat)) = (-1) → κ (some (zi 0)) (zu m 51 ((wr (i : Int)).toNat) (-1)))
    (o18 : ¬ wr (m 49 ((wr (i : Int)).toNat)) = 119 → ¬ wr (m 49 ((wr (i : Int)).toNat)) = 119 → wr (m 49 ((wr (i : Int)).toNat)) = 103 → wr (nxC m) < 48 → ¬ wr ((zu m 51 ((wr (i : Int)).toNat) (-1)) 51 ((wr (i : Int)).toNat)) = (-1) → False)
    (o19 : ¬ wr (m 49 ((wr (i : Int)).toNat)) = 119 → ¬ wr (m 49 ((wr (i : Int)).toNat)) = 119 → wr (m 49 ((wr (i : Int)).toNat)) = 103 → ¬ wr (nxC m) < 48 → ¬ 51 < wr (nxC m) → (0 ≤ wr (i : Int) ∧ wr (i : Int) < 30))
    (o20 : ¬ wr (m 49 ((wr (i : Int)).toNat)) = 119 → ¬ wr (m 49 ((wr (i : Int)).toNat)) = 119 → wr (m 49 ((wr (i : Int)).toNat)) = 103 → ¬ wr (nxC m) < 48 → ¬ 51 < wr (nxC m) → (0 ≤ wr (i : Int) ∧ wr (i : Int) < 30))
    (o21 : ¬ wr (m 49 ((wr (i : Int)).toNat)) = 119 → ¬ wr (m 49 ((wr (i : Int)).toNat)) = 119 → wr (m 49 ((wr (i : Int)).toNat)) = 103 → ¬ wr (nxC m) < 48 → ¬ 51 < wr (nxC m) → wr ((zu (zu m 2 3 ((m 2 3) + 1)) 51 ((wr (i : Int)).toNat) (wr ((nxC m) - 48))) 51 ((wr (i : Int)).toNat)) = (-1) → False)
    (o22 : ¬ wr (m 49 ((wr (i : Int)).toNat)) = 119 → ¬ wr (m 49 ((wr (i : Int)).toNat)) = 119 → wr (m 49 ((wr (i : Int)).toNat)) = 103 → ¬ wr (nxC m) < 48 → ¬ 51 < wr (nxC m) → ¬ wr ((zu (zu m 2 3 ((m 2 3) + 1)) 51 ((wr (i : Int)).toNat) (wr ((nxC m) - 48))) 51 ((wr (i : Int)).toNat)) = (-1) → κ (some (zi 1)) (zu (zu m 2 3 ((m 2 3) + 1)) 51 ((wr (i : Int)).toNat) (wr ((nxC m) - 48))))
    (o23 : ¬ wr (m 49 ((wr (i : Int)).toNat)) = 119 → ¬ wr (m 49 ((wr (i : Int)).toNat)) = 119 → wr (m 49 ((wr (i : Int)).toNat)) = 103 → ¬ wr (nxC m) < 48 → 51 < wr (nxC m) → (0 ≤ wr (i : Int) ∧ wr (i : Int) < 30))
    (o24 : ¬ wr (m 49 ((wr (i : Int)).toNat)) = 119 → ¬ wr (m 49 ((wr (i : Int)).toNat)) = 119 → wr (m 49 ((wr (i : Int)).toNat)) = 103 → ¬ wr (nxC m) < 48 → 51 < wr (nxC m) → (0 ≤ wr (i : Int) ∧ wr (i : Int) < 30))
    (o25 : ¬ wr (m 49 ((wr (i : Int)).toNat)) = 119 → ¬ wr (m 49 ((wr (i : Int)).toNat)) = 119 → wr (m 49 ((wr (i : Int)).toNat)) = 103 → ¬ wr (nxC m) < 48 → 51 < wr (nxC m) → wr ((zu m 51 ((wr (i : Int)).toNat) (-1)) 51 ((wr (i : Int)).toNat)) = (-1) → κ (some (zi 0)) (zu m 51 ((wr (i : Int)).toNat) (-1)))
    (o26 : ¬ wr (m 49 ((wr (i : Int)).toNat)) = 119 → ¬ wr (m 49 ((wr (i : Int)).toNat)) = 119 → wr (m 49 ((wr (i : Int)).toNat)) = 103 → ¬ wr (nxC m) < 48 → 51 < wr (nxC m) → ¬ wr ((zu m 51 ((wr (i : Int)).toNat) (-1)) 51 ((wr (i : Int)).toNat)) = (-1) → False)
    (o27 : ¬ wr (m 49 ((wr (i : Int)).toNat)) = 119 → wr (m 49 ((wr (i : Int)).toNat)) = 119 → False)
    (o28 : wr (m 49 ((wr (i : Int)).toNat)) = 119 → ∀ j, zbd 3 j (m 3 j))
    (o29 : wr (m 49 ((wr (i : Int)).toNat)) = 119 → (0 ≤ (m 2 3) ∧ (m 2 3) ≤ 1000))
    (o30 : wr (m 49 ((wr (i : Int)).toNat)) = 119 → (0 ≤ (m 2 2) ∧ (m 2 2) ≤ 80))
    (o31 : wr (m 49 ((wr (i : Int)).toNat)) = 119 → wr (nxC m) = 45 → (0 ≤ wr (i : Int) ∧ wr (i : Int) < 30))
    (o32 : wr (m 49 ((wr (i : Int)).toNat)) = 119 → wr (nxC m) = 45 → κ (some (zi 1)) (zu (zu m 2 3 ((m 2 3) + 1)) 51 ((wr (i : Int)).toNat) (-1)))
    (o33 : wr (m 49 ((wr (i : Int)).toNat)) = 119 → ¬ wr (nxC m) = 45 → (0 ≤ wr (i : Int) ∧ wr (i : Int) < 30))
    (o34 : wr (m 49 ((wr (i : Int)).toNat)) = 119 → ¬ wr (nxC m) = 45 → ¬ wr (m 49 ((wr (i : Int)).toNat)) = 119 → False)
    (o35 : wr (m 49 ((wr (i : Int)).toNat)) = 119 → ¬ wr (nxC m) = 45 → wr (m 49 ((wr (i : Int)).toNat)) = 119 → ∀ j, zbd 3 j (m 3 j))
    (o36 : wr (m 49 ((wr (i : Int)).toNat)) = 119 → ¬ wr (nxC m) = 45 → wr (m 49 ((wr (i : Int)).toNat)) = 119 → (0 ≤ (m 2 3) ∧ (m 2 3) ≤ 1000))
    (o37 : wr (m 49 ((wr (i : Int)).toNat)) = 119 → ¬ wr (nxC m) = 45 → wr (m 49 ((wr (i : Int)).toNat)) = 119 → (0 ≤ (m 2 2) ∧ (m 2 2) ≤ 80))
    (o38 : wr (m 49 ((wr (i : Int)).toNat)) = 119 → ¬ wr (nxC m) = 45 → wr (m 49 ((wr (i : Int)).toNat)) = 119 → wr (nxC m) < 48 → (0 ≤ wr (i : Int) ∧ wr (i : Int) < 30))
    (o39 : wr (m 49 ((wr (i : Int)).toNat)) = 119 → ¬ wr (nxC m) = 45 → wr (m 49 ((wr (i : Int)).toNat)) = 119 → wr (nxC m) < 48 → (0 ≤ wr (i : Int) ∧ wr (i : Int) < 30))
    (o40 : wr (m 49 ((wr (i : Int)).toNat)) = 119 → ¬ wr (nxC m) = 45 → wr (m 49 ((wr (i : Int)).toNat)) = 119 → wr (nxC m) < 48 → wr ((zu m 51 ((wr (i : Int)).toNat) (-1)) 51 ((wr (i : Int)).toNat)) = (-1) → κ (some (zi 0)) (zu m 51 ((wr (i : Int)).toNat) (-1)))
    (o41 : wr (m 49 ((wr (i : Int)).toNat)) = 119 → ¬ wr (nxC m) = 45 → wr (m 49 ((wr (i : Int)).toNat)) = 119 → wr (nxC m) < 48 → ¬ wr ((zu m 51 ((wr (i : Int)).toNat) (-1)) 51 ((wr (i : Int)).toNat)) = (-1) → False)
    (o42 : wr (m 49 ((wr (i : Int)).toNat)) = 119 → ¬ wr (nxC m) = 45 → wr (m 49 ((wr (i : Int)).toNat)) = 119 → ¬ wr (nxC m) < 48 → ¬ 57 < wr (nxC m) → (0 ≤ wr (i : Int) ∧ wr (i : Int) < 30))
    (o43 : wr (m 49 ((wr (i : Int)).toNat)) = 119 → ¬ wr (nxC m) = 45 → wr (m 49 ((wr (i : Int)).toNat)) = 119 → ¬ wr (nxC m) < 48 → ¬ 57 < wr (nxC m) → (0 ≤ wr (i : Int) ∧ wr (i : Int) < 30))
    (o44 : wr (m 49 ((wr (i : Int)).toNat)) = 119 → ¬ wr (nxC m) = 45 → wr (m 49 ((wr (i : Int)).toNat)) = 119 → ¬ wr (nxC m) < 48 → ¬ 57 < wr (nxC m) → wr ((zu (zu m 2 3 ((m 2 3) + 1)) 51 ((wr (i : Int)).toNat) (wr ((nxC m) - 48))) 51 ((wr (i : Int)).toNat)) = (-1) → False)
    (o45 : wr (m 49 ((wr (i : Int)).toNat)) = 119 → ¬ wr (nxC m) = 45 → wr (m 49 ((wr (i : Int)).toNat)) = 119 → ¬ wr (nxC m) < 48 → ¬ 57 < wr (nxC m) → ¬ wr ((zu (zu m 2 3 ((m 2 3) + 1)) 51 ((wr (i : Int)).toNat) (wr ((nxC m) - 48))) 51 ((wr (i : Int)).toNat)) = (-1) → κ (some (zi 1)) (zu (zu m 2 3 ((m 2 3) + 1)) 51 ((wr (i : Int)).toNat) (wr ((nxC m) - 48))))
    (o46 : wr (m 49 ((wr (i : Int)).toNat)) = 119 → ¬ wr (nxC m) = 45 → wr (m 49 ((wr (i : Int)).toNat)) = 119 → ¬ wr (nxC m) < 48 → 57 < wr (nxC m) → (0 ≤ wr (i : Int) ∧ wr (i : Int) < 30))
    (o47 : wr (m 49 ((wr (i : Int)).toNat)) = 119 → ¬ wr (nxC m) = 45 → wr (m 49 ((wr (i : Int)).toNat)) = 119 → ¬ wr (nxC m) < 48 → 57 < wr (nxC m) → (0 ≤ wr (i : Int) ∧ wr (i : Int) < 30))
    (o48 : wr (m 49 ((wr (i : Int)).toNat)) = 119 → ¬ wr (nxC m) = 45 → wr (m 49 ((wr (i : Int)).toNat)) = 119 → ¬ wr (nxC m) < 48 → 57 < wr (nxC m) → wr ((zu m 51 ((wr (i : Int)).toNat) (-1)) 51 ((wr (i : Int)).toNat)) = (-1) → κ (some (zi 0)) (zu m 51 ((wr (i : Int)).toNat) (-1)))
    (o49 : wr (m 49 ((wr (i : Int)).toNat)) = 119 → ¬ wr (nxC m) = 45 → wr (m 49 ((wr (i : Int)).toNat)) = 119 → ¬ wr (nxC m) < 48 → 57 < wr (nxC m) → ¬ wr ((zu m 51 ((wr (i : Int)).toNat) (-1)) 51 ((wr (i : Int)).toNat)) = (-1) → False) :
    T (D + 2) 110 (0, [(0, zr 48), (1, zr 2), (2, zi (i : Int))], [], m) κ :=
  hT.1 [] 6 (D + 2) 110 _ κ (And.intro (o1) (And.intro (fun a1 => (hT.1 [] 6 (D + 2) 110 (29, [(0, zr 48), (1, zr 2), (2, zi (i : Int))], [], m) _ (And.intro (o2 a1) (And.intro (fun a3 => (hT.1 [] 6 (D + 2) 110 (56, [(0, zr 48), (1, zr 2), (2, zi (i : Int))], [], m) _ (And.intro (o3 a1 a3) (And.intro (fun a5 => (hT.1 [] 6 (D + 2) 110 (82, [(0, zr 48), (1, zr 2), (2, zi (i : Int))], [], m) _ (hT.1 [] 6 (D + 1) 70 _ _ (z_next hT (o4 a1 a3 a5) (o5 a1 a3 a5) (o6 a1 a3 a5) (hT.1 [] 6 (D + 1) 70 _ _ (And.intro (fun a7 => (hT.1 [] 6 (D + 1) 70 (16, [(0, zr 2), (1, zi 61)], [zi 1, zi (m 2 3), zr 2], m) _ (And.intro trivial (And.intro (z_b01L rfl) (hT.1 [] 6 (D + 2) 110 _ _ (And.intro (fun a9 => (z_litF a9 rfl).elim) (fun _ => (o7 a1 a3 a5 a7)))))))) (fun a8 => (And.intro (z_b01L rfl) (hT.1 [] 6 (D + 2) 110 _ _ (And.intro (fun _ => (And.intro (And.intro (o8 a1 a3 a5 a8) trivial) (hT.1 [] 6 (D + 2) 110 (111, [(0, zr 48), (1, zr 2), (2, zi (i : Int))], [zi (i : Int), zr 51], (zu m 51 ((wr (i : Int)).toNat) (-1))) _ (And.intro (o9 a1 a3 a5 a8) (And.intro (fun a11 => (And.intro (z_b01L rfl) (o10 a1 a3 a5 a8 a11))) (fun a12 => (o11 a1 a3 a5 a8 a12).elim)))))) (fun a10 => (a10 (z_litT rfl)).elim))))))))))) (fun a6 => (hT.1 [] 6 (D + 2) 110 (67, [(0, zr 48), (1, zr 2), (2, zi (i : Int))], [], m) _ (hT.1 [] 6 (D + 2) 110 (75, [(0, zr 48), (1, zr 2), (2, zi (i : Int))], [zi 3, zi 0, zr 2, zi (i : Int), zr 51], m) _ (hT.1 [] 6 (D + 1) 71 _ _ (z_next hT (o12 a1 a3 (Classical.byContradiction a6)) (o13 a1 a3 (Classical.byContradiction a6)) (o14 a1 a3 (Classical.byContradiction a6)) (hT.1 [] 6 (D + 1) 71 _ _ (And.intro (fun a13 => (hT.1 [] 6 (D + 1) 71 (21, [(0, zr 2), (1, zi 0), (2, zi 3), (3, zi (nxC m))], [], m) _ (hT.1 [] 6 (D + 2) 110 _ _ (And.intro (And.intro (o15 a1 a3 (Classical.byContradiction a6) a13) trivial) (And.intro (o16 a1 a3 (Classical.byContradiction a6) a13) (hT.1 [] 6 (D + 2) 110 (112, [(0, zr 48), (1, zr 2), (2, zi (i : Int))], [zi ((zu m 51 ((wr (i : Int)).toNat) (-1)) 51 ((wr (i : Int)).toNat))], (zu m 51 ((wr (i : Int)).toNat) (-1))) _ (And.intro (fun a15 => (And.intro (z_b01L rfl) (o17 a1 a3 (Classical.byContradiction a6) a13 a15))) (fun a16 => (o18 a1 a3 (Classical.byContradiction a6) a13 a16).elim)))))))) (fun a14 => (hT.1 [] 6 (D + 1) 71 (13, [(0, zr 2), (1, zi 0), (2, zi 3), (3, zi (nxC m))], [], m) _ (And.intro (fun a17 => (hT.1 [] 6 (D + 1) 71 (24, [(0, zr 2), (1, zi 0), (2, zi 3), (3, zi (nxC m))], [zr 2], m) _ (And.intro trivial (hT.1 [] 6 (D + 1) 71 (34, [(0, zr 2), (1, zi 0), (2, zi 3), (3, zi (nxC m))], [zi (nxC m)], (zu m 2 3 ((m 2 3) + 1))) _ (hT.1 [] 6 (D + 2) 110 _ _ (And.intro (And.intro (o19 a1 a3 (Classical.byContradiction a6) a14 a17) trivial) (And.intro (o20 a1 a3 (Classical.byContradiction a6) a14 a17) (hT.1 [] 6 (D + 2) 110 (112, [(0, zr 48), (1, zr 2), (2, zi (i : Int))], [zi ((zu (zu m 2 3 ((m 2 3) + 1)) 51 ((wr (i : Int)).toNat) (wr ((nxC m) - 48))) 51 ((wr (i : Int)).toNat))], (zu (zu m 2 3 ((m 2 3) + 1)) 51 ((wr (i : Int)).toNat) (wr ((nxC m) - 48)))) _ (And.intro (fun a19 => (o21 a1 a3 (Classical.byContradiction a6) a14 a17 a19).elim) (fun a20 => (And.intro (z_b01L rfl) (o22 a1 a3 (Classical.byContradiction a6) a14 a17 a20)))))))))))) (fun a18 => (hT.1 [] 6 (D + 1) 71 (22, [(0, zr 2), (1, zi 0), (2, zi 3), (3, zi (nxC m))], [zi (-1)], m) _ (hT.1 [] 6 (D + 2) 110 _ _ (And.intro (And.intro (o23 a1 a3 (Classical.byContradiction a6) a14 (Classical.byContradiction a18)) trivial) (And.intro (o24 a1 a3 (Classical.byContradiction a6) a14 (Classical.byContradiction a18)) (hT.1 [] 6 (D + 2) 110 (112, [(0, zr 48), (1, zr 2), (2, zi (i : Int))], [zi ((zu m 51 ((wr (i : Int)).toNat) (-1)) 51 ((wr (i : Int)).toNat))], (zu m 51 ((wr (i : Int)).toNat) (-1))) _ (And.intro (fun a21 => (And.intro (z_b01L rfl) (o25 a1 a3 (Classical.byContradiction a6) a14 (Classical.byContradiction a18) a21))) (fun a22 => (o26 a1 a3 (Classical.byContradiction a6) a14 (Classical.byContradiction a18) a22).elim)))))))))))))))))))))) (fun a4 => (o27 a1 (Classical.byContradiction a4)).elim))))) (fun a2 => (hT.1 [] 6 (D + 2) 110 (11, [(0, zr 48), (1, zr 2), (2, zi (i : Int))], [], m) _ (hT.1 [] 6 (D + 1) 70 _ _ (z_next hT (o28 (Classical.byContradiction a2)) (o29 (Classical.byContradiction a2)) (o30 (Classical.byContradiction a2)) (hT.1 [] 6 (D + 1) 70 _ _ (And.intro (fun a23 => (hT.1 [] 6 (D + 1) 70 (16, [(0, zr 2), (1, zi 45)], [zi 1, zi (m 2 3), zr 2], m) _ (And.intro trivial (And.intro (z_b01L rfl) (hT.1 [] 6 (D + 2) 110 _ _ (And.intro (fun a25 => (z_litF a25 rfl).elim) (fun _ => (And.intro (And.intro (o31 (Classical.byContradiction a2) a23) trivial) (hT.1 [] 6 (D + 2) 110 (27, [(0, zr 48), (1, zr 2), (2, zi (i : Int))], [], (zu (zu m 2 3 ((m 2 3) + 1)) 51 ((wr (i : Int)).toNat) (-1))) _ (And.intro (z_b01L rfl) (o32 (Classical.byContradiction a2) a23))))))))))) (fun a24 => (And.intro (z_b01L rfl) (hT.1 [] 6 (D + 2) 110 _ _ (And.intro (fun _ => (And.intro (o33 (Classical.byContradiction a2) a24) (hT.1 [] 6 (D + 2) 110 (37, [(0, zr 48), (1, zr 2), (2, zi (i : Int))], [zi 119, zi (m 49 ((wr (i : Int)).toNat))], m) _ (And.intro (fun a27 => (o34 (Classical.byContradiction a2) a24 a27).elim) (fun a28 => (hT.1 [] 6 (D + 2) 110 (47, [(0, zr 48), (1, zr 2), (2, zi (i : Int))], [zi 0, zr 2, zi (i : Int), zr 51], m) _ (hT.1 [] 6 (D + 1) 71 _ _ (z_next hT (o35 (Classical.byContradiction a2) a24 (Classical.byContradiction a28)) (o36 (Classical.byContradiction a2) a24 (Classical.byContradiction a28)) (o37 (Classical.byContradiction a2) a24 (Classical.byContradiction a28)) (hT.1 [] 6 (D + 1) 71 _ _ (And.intro (fun a29 => (hT.1 [] 6 (D + 1) 71 (21, [(0, zr 2), (1, zi 0), (2, zi 9), (3, zi (nxC m))], [], m) _ (hT.1 [] 6 (D + 2) 110 _ _ (And.intro (And.intro (o38 (Classical.byContradiction a2) a24 (Classical.byContradiction a28) a29) trivial) (And.intro (o39 (Classical.byContradiction a2) a24 (Classical.byContradiction a28) a29) (hT.1 [] 6 (D + 2) 110 (112, [(0, zr 48), (1, zr 2), (2, zi (i : Int))], [zi ((zu m 51 ((wr (i : Int)).toNat) (-1)) 51 ((wr (i : Int)).toNat))], (zu m 51 ((wr (i : Int)).toNat) (-1))) _ (And.intro (fun a31 => (And.intro (z_b01L rfl) (o40 (Classical.byContradiction a2) a24 (Classical.byContradiction a28) a29 a31))) (fun a32 => (o41 (Classical.byContradiction a2) a24 (Classical.byContradiction a28) a29 a32).elim)))))))) (fun a30 => (hT.1 [] 6 (D + 1) 71 (13, [(0, zr 2), (1, zi 0), (2, zi 9), (3, zi (nxC m))], [], m) _ (And.intro (fun a33 => (hT.1 [] 6 (D + 1) 71 (24, [(0, zr 2), (1, zi 0), (2, zi 9), (3, zi (nxC m))], [zr 2], m) _ (And.intro trivial (hT.1 [] 6 (D + 1) 71 (34, [(0, zr 2), (1, zi 0), (2, zi 9), (3, zi (nxC m))], [zi (nxC m)], (zu m 2 3 ((m 2 3) + 1))) _ (hT.1 [] 6 (D + 2) 110 _ _ (And.intro (And.intro (o42 (Classical.byContradiction a2) a24 (Classical.byContradiction a28) a30 a33) trivial) (And.intro (o43 (Classical.byContradiction a2) a24 (Classical.byContradiction a28) a30 a33) (hT.1 [] 6 (D + 2) 110 (112, [(0, zr 48), (1, zr 2), (2, zi (i : Int))], [zi ((zu (zu m 2 3 ((m 2 3) + 1)) 51 ((wr (i : Int)).toNat) (wr ((nxC m) - 48))) 51 ((wr (i : Int)).toNat))], (zu (zu m 2 3 ((m 2 3) + 1)) 51 ((wr (i : Int)).toNat) (wr ((nxC m) - 48)))) _ (And.intro (fun a35 => (o44 (Classical.byContradiction a2) a24 (Classical.byContradiction a28) a30 a33 a35).elim) (fun a36 => (And.intro (z_b01L rfl) (o45 (Classical.byContradiction a2) a24 (Classical.byContradiction a28) a30 a33 a36)))))))))))) (fun a34 => (hT.1 [] 6 (D + 1) 71 (22, [(0, zr 2), (1, zi 0), (2, zi 9), (3, zi (nxC m))], [zi (-1)], m) _ (hT.1 [] 6 (D + 2) 110 _ _ (And.intro (And.intro (o46 (Classical.byContradiction a2) a24 (Classical.byContradiction a28) a30 (Classical.byContradiction a34)) trivial) (And.intro (o47 (Classical.byContradiction a2) a24 (Classical.byContradiction a28) a30 (Classical.byContradiction a34)) (hT.1 [] 6 (D + 2) 110 (112, [(0, zr 48), (1, zr 2), (2, zi (i : Int))], [zi ((zu m 51 ((wr (i : Int)).toNat) (-1)) 51 ((wr (i : Int)).toNat))], (zu m 51 ((wr (i : Int)).toNat) (-1))) _ (And.intro (fun a37 => (And.intro (z_b01L rfl) (o48 (Classical.byContradiction a2) a24 (Classical.byContradiction a28) a30 (Classical.byContradiction a34) a37))) (fun a38 => (o49 (Classical.byContradiction a2) a24 (Classical.byContradiction a28) a30 (Classical.byContradiction a34) a38).elim))))))))))))))))))))) (fun a26 => (a26 (z_litT rfl)).elim)))))))))))))
theorem zb110_0 (hT : zRules T) {D : Nat} {κ : Option zA → zM → Prop} {m : zM} {i : Nat}  (hB : zB m) (h_i : i ≤ 29) (hf0 : 0 ≤ m 2 3 ∧ m 2 3 ≤ 62) 
    (k1 : ¬ wr (m 49 i) = 119 → ¬ wr (m 49 i) = 103 → (nxC m) = 61 → zB (zu m 2 3 ((m 2 3) + 1)) → T (D + 1) 72 (0, [(0, zr 2), (1, zi 2)], [], (zu m 2 3 ((m 2 3) + 1))) (fun r m1 => T (D + 2) 110 (101, [(0, zr 48), (1, zr 2), (2, zi (i : Int))], r.toList ++ [zi (i : Int), zr 51], m1) κ))
    (k2 : ¬ wr (m 49 i) = 119 → ¬ wr (m 49 i) = 103 → ¬ (nxC m) = 61 → zB (zu m 51 i (-1)) → κ (some (zi 0)) (zu m 51 i (-1)))
    (k3 : ¬ wr (m 49 i) = 119 → wr (m 49 i) = 103 → (nxC m) < 48 → zB (zu m 51 i (-1)) → κ (some (zi 0)) (zu m 51 i (-1)))
    (k4 : ¬ wr (m 49 i) = 119 → wr (m 49 i) = 103 → ¬ (nxC m) < 48 → ¬ 51 < (nxC m) → zB (zu (zu m 2 3 ((m 2 3) + 1)) 51 i ((nxC m) - 48)) → κ (some (zi 1)) (zu (zu m 2 3 ((m 2 3) + 1)) 51 i ((nxC m) - 48)))
    (k5 : ¬ wr (m 49 i) = 119 → wr (m 49 i) = 103 → ¬ (nxC m) < 48 → 51 < (nxC m) → zB (zu m 51 i (-1)) → κ (some (zi 0)) (zu m 51 i (-1)))
    (k6 : wr (m 49 i) = 119 → (nxC m) = 45 → zB (zu (zu m 2 3 ((m 2 3) + 1)) 51 i (-1)) → κ (some (zi 1)) (zu (zu m 2 3 ((m 2 3) + 1)) 51 i (-1)))
    (k7 : wr (m 49 i) = 119 → ¬ (nxC m) = 45 → (nxC m) < 48 → zB (zu m 51 i (-1)) → κ (some (zi 0)) (zu m 51 i (-1)))
    (k8 : wr (m 49 i) = 119 → ¬ (nxC m) = 45 → ¬ (nxC m) < 48 → ¬ 57 < (nxC m) → zB (zu (zu m 2 3 ((m 2 3) + 1)) 51 i ((nxC m) - 48)) → κ (some (zi 1)) (zu (zu m 2 3 ((m 2 3) + 1)) 51 i ((nxC m) - 48)))
    (k9 : wr (m 49 i) = 119 → ¬ (nxC m) = 45 → ¬ (nxC m) < 48 → 57 < (nxC m) → zB (zu m 51 i (-1)) → κ (some (zi 0)) (zu m 51 i (-1))) :
    T (D + 2) 110 (0, [(0, zr 48), (1, zr 2), (2, zi (i : Int))], [], m) κ := by
  have hb2 : (-2147483648) ≤ wr (m 49 i) ∧ wr (m 49 i) ≤ 2147483647 := wrB (m 49 i)
  have hb3 : 0 ≤ (m 2 2) ∧ (m 2 2) ≤ 80 := hB 2 2
  have hb4 : (-1) ≤ (nxC m) ∧ (nxC m) ≤ 65535 := nxCBo m (fun j => hB 3 j)
  have hb5 : (-1) ≤ ((zu m 51 i (-1)) 51 i) ∧ ((zu m 51 i (-1)) 51 i) ≤ (-1) := (by rw [show ((zu m 51 i (-1)) 51 i) = (-1) from (zu_sm (by omega))]; exact ⟨Int.le_refl _, Int.le_refl _⟩)
  have he0 : wr (i : Int) = (i : Int) := wr_id (by omega) (by omega)
  have he1 : (i : Int).toNat = i := by omega
  have he2 : wr (nxC m) = (nxC m) := wr_id (by omega) (by omega)
  have he3 : wr ((zu m 51 i (-1)) 51 i) = ((zu m 51 i (-1)) 51 i) := wr_id (by omega) (by omega)
  have he4 : wr ((nxC m) - 48) = ((nxC m) - 48) := wr_id (by omega) (by omega)
  have he5 : ((zu (zu m 2 3 ((m 2 3) + 1)) 51 i ((nxC m) - 48)) 51 i) = ((nxC m) - 48) := (zu_sm (by omega))
  have key := @zb110_0r T hT D κ m i
  simp only [he0, he1, he2, he3, he4, he5, Int.toNat_natCast] at key
  exact key
    (by refine ⟨?_, ?_⟩ <;> omega)
    (fun x0 => by refine ⟨?_, ?_⟩ <;> omega)
    (fun x0 x1 => by refine ⟨?_, ?_⟩ <;> omega)
    (fun x0 x1 x2 => fun j => hB 3 j)
    (fun x0 x1 x2 => by refine ⟨?_, ?_⟩ <;> omega)
    (fun x0 x1 x2 => by refine ⟨?_, ?_⟩ <;> omega)
    (fun x0 x1 x2 x3 => k1 x0 x2 x3 (zB_u hB (show (-1) ≤ ((m 2 3) + 1) ∧ ((m 2 3) + 1) ≤ 100 from ⟨by omega, by omega⟩)))
    (fun x0 x1 x2 x3 => by refine ⟨?_, ?_⟩ <;> omega)
    (fun x0 x1 x2 x3 => by refine ⟨?_, ?_⟩ <;> omega)
    (fun x0 x1 x2 x3 x4 => k2 x0 x2 x3 (zB_u hB trivial))
    (fun x0 x1 x2 x3 x4 => by omega)
    (fun x0 x1 x2 => fun j => hB 3 j)
    (fun x0 x1 x2 => by refine ⟨?_, ?_⟩ <;> omega)
    (fun x0 x1 x2 => by refine ⟨?_, ?_⟩ <;> omega)
    (fun x0 x1 x2 x3 => by refine ⟨?_, ?_⟩ <;> omega)
    (fun x0 x1 x2 x3 => by refine ⟨?_, ?_⟩ <;> omega)
    (fun x0 x1 x2 x3 x4 => k3 x0 x2 x3 (zB_u hB trivial))
    (fun x0 x1 x2 x3 x4 => by omega)
    (fun x0 x1 x2 x3 x4 => by refine ⟨?_, ?_⟩ <;> omega)
    (fun x0 x1 x2 x3 x4 => by refine ⟨?_, ?_⟩ <;> omega)
    (fun x0 x1 x2 x3 x4 x5 => by omega)
    (fun x0 x1 x2 x3 x4 x5 => k4 x0 x2 x3 x4 (zB_u (zB_u hB (show (-1) ≤ ((m 2 3) + 1) ∧ ((m 2 3) + 1) ≤ 100 from ⟨by omega, by omega⟩)) trivial))
    (fun x0 x1 x2 x3 x4 => by refine ⟨?_, ?_⟩ <;> omega)
    (fun x0 x1 x2 x3 x4 => by refine ⟨?_, ?_⟩ <;> omega)
    (fun x0 x1 x2 x3 x4 x5 => k5 x0 x2 x3 x4 (zB_u hB trivial))
    (fun x0 x1 x2 x3 x4 x5 => by omega)
    (fun x0 x1 => by omega)
    (fun x0 => fun j => hB 3 j)
    (fun x0 => by refine ⟨?_, ?_⟩ <;> omega)
    (fun x0 => by refine ⟨?_, ?_⟩ <;> omega)
    (fun x0 x1 => by refine ⟨?_, ?_⟩ <;> omega)
    (fun x0 x1 => k6 x0 x1 (zB_u (zB_u hB (show (-1) ≤ ((m 2 3) + 1) ∧ ((m 2 3) + 1) ≤ 100 from ⟨by omega, by omega⟩)) trivial))
    (fun x0 x1 => by refine ⟨?_, ?_⟩ <;> omega)
    (fun x0 x1 x2 => by omega)
    (fun x0 x1 x2 => fun j => hB 3 j)
    (fun x0 x1 x2 => by refine ⟨?_, ?_⟩ <;> omega)
    (fun x0 x1 x2 => by refine ⟨?_, ?_⟩ <;> omega)
    (fun x0 x1 x2 x3 => by refine ⟨?_, ?_⟩ <;> omega)
    (fun x0 x1 x2 x3 => by refine ⟨?_, ?_⟩ <;> omega)
    (fun x0 x1 x2 x3 x4 => k7 x0 x1 x3 (zB_u hB trivial))
    (fun x0 x1 x2 x3 x4 => by omega)
    (fun x0 x1 x2 x3 x4 => by refine ⟨?_, ?_⟩ <;> omega)
    (fun x0 x1 x2 x3 x4 => by refine ⟨?_, ?_⟩ <;> omega)
    (fun x0 x1 x2 x3 x4 x5 => by omega)
    (fun x0 x1 x2 x3 x4 x5 => k8 x0 x1 x3 x4 (zB_u (zB_u hB (show (-1) ≤ ((m 2 3) + 1) ∧ ((m 2 3) + 1) ≤ 100 from ⟨by omega, by omega⟩)) trivial))
    (fun x0 x1 x2 x3 x4 => by refine ⟨?_, ?_⟩ <;> omega)
    (fun x0 x1 x2 x3 x4 => by refine ⟨?_, ?_⟩ <;> omega)
    (fun x0 x1 x2 x3 x4 x5 => k9 x0 x1 x3 x4 (zB_u hB trivial))
    (fun x0 x1 x2 x3 x4 x5 => by omega)
theorem zb110_101r (hT : zRules T) {D : Nat} {κ : Option zA → zM → Prop} {m : zM} {i : Nat} {v : Int} {lo : zL} (hlo : z_keep [0, 2] lo = [(0, zr 48), (2, zi (i : Int))]) 
    (o1 : (0 ≤ wr (i : Int) ∧ wr (i : Int) < 30))
    (o2 : (0 ≤ wr (i : Int) ∧ wr (i : Int) < 30))
    (o3 : wr ((zu m 51 ((wr (i : Int)).toNat) v) 51 ((wr (i : Int)).toNat)) = (-1) → κ (some (zi 0)) (zu m 51 ((wr (i : Int)).toNat) v))
    (o4 : ¬ wr ((zu m 51 ((wr (i : Int)).toNat) v) 51 ((wr (i : Int)).toNat)) = (-1) → κ (some (zi 1)) (zu m 51 ((wr (i : Int)).toNat) v)) :
    T (D + 2) 110 (101, lo, [zi v, zi (i : Int), zr 51], m) κ :=
  zkeep hT hlo (hT.1 [] 6 (D + 2) 110 _ κ (And.intro (And.intro (o1) trivial) (And.intro (o2) (hT.1 [] 6 (D + 2) 110 (112, [(0, zr 48), (2, zi (i : Int))], [zi ((zu m 51 ((wr (i : Int)).toNat) v) 51 ((wr (i : Int)).toNat))], (zu m 51 ((wr (i : Int)).toNat) v)) _ (And.intro (fun a1 => (And.intro (z_b01L rfl) (o3 a1))) (fun a2 => (And.intro (z_b01L rfl) (o4 a2))))))))
theorem zb110_101 (hT : zRules T) {D : Nat} {κ : Option zA → zM → Prop} {m : zM} {i : Nat} {v : Int} {lo : zL} (hlo : z_keep [0, 2] lo = [(0, zr 48), (2, zi (i : Int))])  (hB : zB m) (h_i : i ≤ 29) (h_v : (-1) ≤ v ∧ v ≤ 99) 
    (k1 : v = (-1) → zB (zu m 51 i v) → κ (some (zi 0)) (zu m 51 i v))
    (k2 : ¬ v = (-1) → zB (zu m 51 i v) → κ (some (zi 1)) (zu m 51 i v)) :
    T (D + 2) 110 (101, lo, [zi v, zi (i : Int), zr 51], m) κ := by
  have he0 : wr (i : Int) = (i : Int) := wr_id (by omega) (by omega)
  have he1 : (i : Int).toNat = i := by omega
  have he2 : ((zu m 51 i v) 51 i) = v := (zu_sm (by omega))
  have he3 : wr v = v := wr_id (by omega) (by omega)
  have key := @zb110_101r T hT D κ m i v lo hlo
  simp only [he0, he1, he2, he3, Int.toNat_natCast] at key
  exact key
    (by refine ⟨?_, ?_⟩ <;> omega)
    (by refine ⟨?_, ?_⟩ <;> omega)
    (fun x0 => k1 x0 (zB_u hB trivial))
    (fun x0 => k2 x0 (zB_u hB trivial))
theorem zb107_0r (hT : zRules T) {D : Nat} {κ : Option zA → zM → Prop} {m : zM} 
    (o1 : T (D + 4) 107 (2, [(0, zr 48), (1, zr 2), (2, zi 0)], [], m) κ) :
    T (D + 4) 107 (0, [(0, zr 48), (1, zr 2)], [], m) κ :=
  hT.1 [(2, [0, 1, 2])] 6 (D + 4) 107 _ κ (o1)
theorem zb107_0 (hT : zRules T) {D : Nat} {κ : Option zA → zM → Prop} {m : zM}  (hB : zB m) 
    (k1 : T (D + 4) 107 (2, [(0, zr 48), (1, zr 2), (2, zi 0)], [], m) κ) :
    T (D + 4) 107 (0, [(0, zr 48), (1, zr 2)], [], m) κ := by
  exact zb107_0r hT
    k1
theorem zb107_2r (hT : zRules T) {D : Nat} {κ : Option zA → zM → Prop} {m : zM} {i : Nat} {lo : zL} (hlo : z_keep [0, 1, 2] lo = [(0, zr 48), (1, zr 2), (2, zi (i : Int))]) 
    (o1 : ¬ wr (i : Int) < 30 → κ (some (zi (-1))) m)
    (o2 : wr (i : Int) < 30 → T (D + 3) 108 (0, [(0, zr 48), (1, zr 2), (2, zi (i : Int))], [], m) (fun r m1 => T (D + 4) 107 (14, [(0, zr 48), (1, zr 2), (2, zi (i : Int))], r.toList ++ [], m1) κ)) :
    T (D + 4) 107 (2, lo, [], m) κ :=
  zkeep hT hlo (hT.1 [(2, [0, 1, 2])] 6 (D + 4) 107 _ κ (And.intro (fun a1 => (o1 a1)) (fun a2 => (hT.1 [(2, [0, 1, 2])] 6 (D + 4) 107 (11, [(0, zr 48), (1, zr 2), (2, zi (i : Int))], [zi (i : Int), zr 2, zr 48], m) _ (o2 (Classical.byContradiction a2))))))
theorem zb107_2 (hT : zRules T) {D : Nat} {κ : Option zA → zM → Prop} {m : zM} {i : Nat} {lo : zL} (hlo : z_keep [0, 1, 2] lo = [(0, zr 48), (1, zr 2), (2, zi (i : Int))])  (hB : zB m) (h_i : i ≤ 30) 
    (k1 : ¬ (i : Int) < 30 → κ (some (zi (-1))) m)
    (k2 : (i : Int) < 30 → T (D + 3) 108 (0, [(0, zr 48), (1, zr 2), (2, zi (i : Int))], [], m) (fun r m1 => T (D + 4) 107 (14, [(0, zr 48), (1, zr 2), (2, zi (i : Int))], r.toList ++ [], m1) κ)) :
    T (D + 4) 107 (2, lo, [], m) κ := by
  have he0 : wr (i : Int) = (i : Int) := wr_id (by omega) (by omega)
  have key := @zb107_2r T hT D κ m i lo hlo
  simp only [he0, Int.toNat_natCast] at key
  exact key
    k1
    k2
theorem zb107_14r (hT : zRules T) {D : Nat} {κ : Option zA → zM → Prop} {m : zM} {i : Nat} {v : Int} {lo : zL} (hlo : z_keep [0, 1, 2] lo = [(0, zr 48), (1, zr 2), (2, zi (i : Int))]) 
    (o1 : ¬ wr v = 0 → ¬ wr (m 2 3) = wr (m 2 1) → ∀ j, zbd 3 j (m 3 j))
    (o2 : ¬ wr v = 0 → ¬ wr (m 2 3) = wr (m 2 1) → (0 ≤ (m 2 3) ∧ (m 2 3) ≤ 1000))
    (o3 : ¬ wr v = 0 → ¬ wr (m 2 3) = wr (m 2 1) → (0 ≤ (m 2 2) ∧ (m 2 2) ≤ 80))
    (o4 : ¬ wr v = 0 → ¬ wr (m 2 3) = wr (m 2 1) → wr (nxC m) = 59 → T (D + 4) 107 (2, [(0, zr 48), (1, zr 2), (2, zi ((i : Int) + 1))], [], (zu m 2 3 ((m 2 3) + 1))) κ)
    (o5 : ¬ wr v = 0 → ¬ wr (m 2 3) = wr (m 2 1) → ¬ wr (nxC m) = 59 → κ (some (zi (-1))) m)
    (o6 : ¬ wr v = 0 → wr (m 2 3) = wr (m 2 1) → κ (some (zi (wr ((i : Int) + 1)))) m)
    (o7 : wr v = 0 → κ (some (zi (-1))) m) :
    T (D + 4) 107 (14, lo, [zi v], m) κ :=
  zkeep hT hlo (hT.1 [(2, [0, 1, 2])] 6 (D + 4) 107 _ κ (And.intro (fun a1 => (hT.1 [] 6 (D + 3) 68 _ _ (And.intro (fun a3 => (hT.1 [] 6 (D + 3) 68 (16, [(0, zr 2)], [zi 0], m) _ (And.intro (z_b01L rfl) (hT.1 [(2, [0, 1, 2])] 6 (D + 4) 107 _ _ (And.intro (fun _ => (hT.1 [] 6 (D + 3) 70 _ _ (z_next hT (o1 a1 a3) (o2 a1 a3) (o3 a1 a3) (hT.1 [] 6 (D + 3) 70 _ _ (And.intro (fun a6 => (hT.1 [] 6 (D + 3) 70 (16, [(0, zr 2), (1, zi 59)], [zi 1, zi (m 2 3), zr 2], m) _ (And.intro trivial (And.intro (z_b01L rfl) (hT.1 [(2, [0, 1, 2])] 6 (D + 4) 107 _ _ (And.intro (fun _ => (o4 a1 a3 a6)) (fun a8 => (a8 (z_litT rfl)).elim))))))) (fun a7 => (And.intro (z_b01L rfl) (hT.1 [(2, [0, 1, 2])] 6 (D + 4) 107 _ _ (And.intro (fun a9 => (z_litF a9 rfl).elim) (fun _ => (o5 a1 a3 a7))))))))))) (fun a5 => (a5 (z_litT rfl)).elim)))))) (fun a4 => (hT.1 [] 6 (D + 3) 68 (12, [(0, zr 2)], [zi 1], m) _ (And.intro (z_b01L rfl) (hT.1 [(2, [0, 1, 2])] 6 (D + 4) 107 _ _ (And.intro (fun a10 => (z_litF a10 rfl).elim) (fun _ => (o6 a1 (Classical.byContradiction a4))))))))))) (fun a2 => (o7 (Classical.byContradiction a2)))))
theorem zb107_14 (hT : zRules T) {D : Nat} {κ : Option zA → zM → Prop} {m : zM} {i : Nat} {v : Int} {lo : zL} (hlo : z_keep [0, 1, 2] lo = [(0, zr 48), (1, zr 2), (2, zi (i : Int))])  (hB : zB m) (h_i : i ≤ 29) (h_v : 0 ≤ v ∧ v ≤ 1) (hf0 : 0 ≤ m 2 3 ∧ m 2 3 ≤ 70) 
    (k1 : ¬ v = 0 → ¬ (m 2 3) = (m 2 1) → (nxC m) = 59 → zB (zu m 2 3 ((m 2 3) + 1)) → T (D + 4) 107 (2, [(0, zr 48), (1, zr 2), (2, zi ((i : Int) + 1))], [], (zu m 2 3 ((m 2 3) + 1))) κ)
    (k2 : ¬ v = 0 → ¬ (m 2 3) = (m 2 1) → ¬ (nxC m) = 59 → κ (some (zi (-1))) m)
    (k3 : ¬ v = 0 → (m 2 3) = (m 2 1) → κ (some (zi ((i : Int) + 1))) m)
    (k4 : v = 0 → κ (some (zi (-1))) m) :
    T (D + 4) 107 (14, lo, [zi v], m) κ := by
  have hb3 : 0 ≤ (m 2 1) ∧ (m 2 1) ≤ 80 := hB 2 1
  have hb4 : 0 ≤ (m 2 2) ∧ (m 2 2) ≤ 80 := hB 2 2
  have hb5 : (-1) ≤ (nxC m) ∧ (nxC m) ≤ 65535 := nxCBo m (fun j => hB 3 j)
  have he0 : wr v = v := wr_id (by omega) (by omega)
  have he1 : wr (m 2 3) = (m 2 3) := wr_id (by omega) (by omega)
  have he2 : wr (m 2 1) = (m 2 1) := wr_id (by omega) (by omega)
  have he3 : wr ((i : Int) + 1) = ((i : Int) + 1) := wr_id (by omega) (by omega)
  have he4 : wr (nxC m) = (nxC m) := wr_id (by omega) (by omega)
  have key := @zb107_14r T hT D κ m i v lo hlo
  simp only [he0, he1, he2, he3, he4, Int.toNat_natCast] at key
  exact key
    (fun x0 x1 => fun j => hB 3 j)
    (fun x0 x1 => by refine ⟨?_, ?_⟩ <;> omega)
    (fun x0 x1 => by refine ⟨?_, ?_⟩ <;> omega)
    (fun x0 x1 x2 => k1 x0 x1 x2 (zB_u hB (show (-1) ≤ ((m 2 3) + 1) ∧ ((m 2 3) + 1) ≤ 100 from ⟨by omega, by omega⟩)))
    k2
    k3
    k4
end ZBlocks
end
-- 9y.acts.lean.txt
section
/-! year(): the acts as they are told; read by the class. -/
noncomputable def twoS (s : Nat → Int) (a : Nat) : Nat ⊕ (Int × Nat) := if 48 ≤ s a ∧ s a ≤ 57 then .inr ((rNum s 2 a 0).2, (rNum s 2 a 0).1) else .inl a
noncomputable def secS (s : Nat → Int) (kd : Int) (a : Nat) : Nat ⊕ (Int × Nat) :=
  if kd = 119 then (if s a = 45 then .inr (-1, a + 1) else if 48 ≤ s a ∧ s a ≤ 57 then .inr (s a - 48, a + 1) else .inl a)
  else if kd = 103 then (if 48 ≤ s a ∧ s a ≤ 51 then .inr (s a - 48, a + 1) else .inl a)
  else if s a = 61 then twoS s (a + 1) else .inl a
/-- what stands behind the sign of an act: its numbers, where it ends; or the place at fault -/
noncomputable def actS (s : Nat → Int) (a : Nat) : Nat ⊕ (Int × Int × Nat) :=
  if s a = 107 then (if 49 ≤ s (a + 1) ∧ s (a + 1) ≤ 57 then .inr (s (a + 1) - 48, 0, a + 2) else .inr (1, 0, a + 1))
  else if s a = 119 ∨ s a = 103 ∨ s a = 109 then (if 48 ≤ s (a + 1) ∧ s (a + 1) ≤ 57 then (match secS s (s a) (a + 2) with
    | .inl x => .inl x
    | .inr q => .inr (s (a + 1) - 48, q.1, q.2)) else .inl (a + 1))
  else .inl a
noncomputable def actE (s : Nat → Int) (a : Nat) : Nat := match actS s a with
  | .inl x => x
  | .inr q => q.2.2
/-- where act i begins -/
noncomputable def stY (s : Nat → Int) : Nat → Nat
  | 0 => 0
  | i + 1 => actE s (stY s i) + 1
noncomputable def yrP (s : Nat → Int) (L : Nat) : Nat → Nat → Nat → Nat ⊕ Nat
  | 0, _, a => .inl a
  | j + 1, n, a => match actS s a with
    | .inl x => .inl x
    | .inr q => if q.2.2 = L then .inr (n + 1) else if s q.2.2 = 59 then yrP s L j (n + 1) (q.2.2 + 1) else .inl q.2.2
theorem twoS_b {s : Nat → Int} {L : Nat} (hs : ∀ a, L ≤ a → s a = -1) {a : Nat} (ha : a ≤ L) : (∀ x, twoS s a = .inl x → x = a) ∧ ∀ v b, twoS s a = .inr (v, b) → a + 1 ≤ b ∧ b ≤ L ∧ 0 ≤ v ∧ v ≤ 99 := by
  unfold twoS
  by_cases q : 48 ≤ s a ∧ s a ≤ 57
  · rw [if_pos q]
    refine ⟨(fun x h => by cases h), fun v b h => ?_⟩
    have hl : a < L := by
      rcases Nat.lt_or_ge a L with h | h
      · exact h
      · have := hs a h
        omega
    rw [rNum, if_pos q, rNum] at h
    by_cases q2 : 48 ≤ s (a + 1) ∧ s (a + 1) ≤ 57
    · have hl2 : a + 1 < L := by
        rcases Nat.lt_or_ge (a + 1) L with h | h
        · exact h
        · have := hs (a + 1) h
          omega
      rw [if_pos q2, rNum] at h
      cases h
      omega
    · rw [if_neg q2] at h
      cases h
      omega
  · rw [if_neg q]
    refine ⟨fun x h => ?_, fun v b h => by cases h⟩
    cases h
    rfl
theorem secS_b {s : Nat → Int} {L : Nat} (hs : ∀ a, L ≤ a → s a = -1) {a : Nat} {kd : Int} (hk : kd = 119 ∨ kd = 103 ∨ kd = 109) (ha : a ≤ L) : (∀ x, secS s kd a = .inl x → a ≤ x ∧ x ≤ L) ∧ ∀ v b, secS s kd a = .inr (v, b) → a + 1 ≤ b ∧ b ≤ L ∧ (kd = 119 → -1 ≤ v ∧ v ≤ 9) ∧ (kd = 103 → 0 ≤ v ∧ v ≤ 3) ∧ (kd = 109 → 0 ≤ v ∧ v ≤ 99) := by
  have lt : ∀ b, ¬ s b = -1 → b < L := fun b h => by
    rcases Nat.lt_or_ge b L with x | x
    · exact x
    · exact absurd (hs b x) h
  unfold secS
  by_cases k1 : kd = 119
  · rw [if_pos k1]
    by_cases q : s a = 45
    · rw [if_pos q]
      have := lt a (by omega)
      exact ⟨(fun x h => by cases h), fun v b h => by cases h; omega⟩
    · rw [if_neg q]
      by_cases q2 : 48 ≤ s a ∧ s a ≤ 57
      · rw [if_pos q2]
        have := lt a (by omega)
        exact ⟨(fun x h => by cases h), fun v b h => by cases h; omega⟩
      · rw [if_neg q2]
        exact ⟨(fun x h => by cases h; omega), fun v b h => by cases h⟩
  · rw [if_neg k1]
    by_cases k2 : kd = 103
    · rw [if_pos k2]
      by_cases q2 : 48 ≤ s a ∧ s a ≤ 51
      · rw [if_pos q2]
        have := lt a (by omega)
        exact ⟨(fun x h => by cases h), fun v b h => by cases h; omega⟩
      · rw [if_neg q2]
        exact ⟨(fun x h => by cases h; omega), fun v b h => by cases h⟩
    · rw [if_neg k2]
      by_cases q : s a = 61
      · rw [if_pos q]
        have := lt a (by omega)
        obtain ⟨t1, t2⟩ := twoS_b hs (a := a + 1) (by omega)
        refine ⟨fun x h => ?_, fun v b h => ?_⟩
        · have := t1 x h
          omega
        · have := t2 v b h
          omega
      · rw [if_neg q]
        exact ⟨(fun x h => by cases h; omega), fun v b h => by cases h⟩
theorem actS_b {s : Nat → Int} {L : Nat} (hs : ∀ a, L ≤ a → s a = -1) {a : Nat} (ha : a ≤ L) : (∀ x, actS s a = .inl x → a ≤ x ∧ x ≤ L) ∧ ∀ f g b, actS s a = .inr (f, g, b) → a + 1 ≤ b ∧ b ≤ L ∧ (s a = 107 ∨ s a = 119 ∨ s a = 103 ∨ s a = 109) ∧ (0 ≤ f ∧ f ≤ 9) ∧ (s a = 119 → -1 ≤ g ∧ g ≤ 9) ∧ (s a = 103 → 0 ≤ g ∧ g ≤ 3) ∧ (s a = 109 → 0 ≤ g ∧ g ≤ 99) := by
  have lt : ∀ b, ¬ s b = -1 → b < L := fun b h => by
    rcases Nat.lt_or_ge b L with x | x
    · exact x
    · exact absurd (hs b x) h
  unfold actS
  by_cases k1 : s a = 107
  · rw [if_pos k1]
    have := lt a (by omega)
    by_cases q : 49 ≤ s (a + 1) ∧ s (a + 1) ≤ 57
    · rw [if_pos q]
      have := lt (a + 1) (by omega)
      exact ⟨(fun x h => by cases h), fun f g b h => by cases h; omega⟩
    · rw [if_neg q]
      exact ⟨(fun x h => by cases h), fun f g b h => by cases h; omega⟩
  · rw [if_neg k1]
    by_cases k2 : s a = 119 ∨ s a = 103 ∨ s a = 109
    · rw [if_pos k2]
      have := lt a (by omega)
      by_cases q : 48 ≤ s (a + 1) ∧ s (a + 1) ≤ 57
      · rw [if_pos q]
        have := lt (a + 1) (by omega)
        obtain ⟨t1, t2⟩ := secS_b hs (a := a + 2) k2 (by omega)
        cases h0 : secS s (s a) (a + 2) with
        | inl x =>
          have := t1 x h0
          exact ⟨(fun y h => by cases h; omega), fun f g b h => by cases h⟩
        | inr w =>
          obtain ⟨v, c⟩ := w
          have := t2 v c h0
          exact ⟨(fun y h => by cases h), fun f g b h => by cases h; omega⟩
      · rw [if_neg q]
        exact ⟨(fun x h => by cases h; omega), fun f g b h => by cases h⟩
    · rw [if_neg k2]
      exact ⟨(fun x h => by cases h; omega), fun f g b h => by cases h⟩
section ZActs
variable {T : Nat → Nat → zG → (Option zA → zM → Prop) → Prop} {D : Nat} {κ : Option zA → zM → Prop} {m : zM} {s : Nat → Int} {L : Nat}
noncomputable def yfL : zLs := [(2, some 3), (49, none), (50, none), (51, none)]
theorem sC_y {M : zM} (hF : zFr (inL yfL) m M) : sgC M = sgC m := by
  funext a
  have e1 : M 2 2 = m 2 2 := hF 2 2 rfl
  have e2 : M 3 a = m 3 a := hF 3 a rfl
  unfold sgC
  rw [e1, e2]
theorem nx_y {M : zM} {a : Nat} (hsd : s = sgC m) (hF : zFr (inL yfL) m M) (h : M 2 3 = (a : Int)) : nxC M = s a := by
  have e : zu M 2 3 (a : Int) = M := zu_id h
  rw [hsd, ← sC_y hF, ← nx_at, e]
theorem z_secC (hT : zRules T) (hsd : s = sgC m) {N : zM} {a i : Nat} {kd : Int} (hBN : zB N) (hF : zFr (inL yfL) m N) (h23 : N 2 3 = (a : Int)) (ha : a ≤ 62) (hi : i ≤ 29) (hk : N 49 i = kd) (hkd : kd = 119 ∨ kd = 103 ∨ kd = 109)
    (h0 : ∀ x M, secS s kd a = .inl x → zB M → zFr (inL [(2, some 3), (51, none)]) N M → M 2 3 = (x : Int) → κ (some (zi 0)) M)
    (h1 : ∀ v b M, secS s kd a = .inr (v, b) → zB M → zFr (inL [(2, some 3), (51, none)]) N M → M 2 3 = (b : Int) → M 51 i = v → (∀ j, j ≠ i → M 51 j = N 51 j) → κ (some (zi 1)) M) : T (D + 4) 110 (0, [(0, zr 48), (1, zr 2), (2, zi (i : Int))], [], N) κ := by
  have hn : nxC N = s a := nx_y hsd hF h23
  have ek : wr (N 49 i) = kd := by rw [hk]; exact wr_id (by omega) (by omega)
  have bad : ∀ x : Nat, x = a → secS s kd a = .inl x → zB (zu N 51 i (-1)) → κ (some (zi 0)) (zu N 51 i (-1)) := fun x hx hs2 hz => h0 x _ hs2 hz (zFr.refl.set rfl) (by rw [zu_dn (by omega), h23, hx])
  have one : ∀ v : Int, secS s kd a = .inr (v, a + 1) → zB (zu (zu N 2 3 (N 2 3 + 1)) 51 i v) → κ (some (zi 1)) (zu (zu N 2 3 (N 2 3 + 1)) 51 i v) := fun v hs2 hz => h1 v (a + 1) _ hs2 hz ((zFr.refl.set rfl).set rfl) (by rw [zu_dn (by omega), zu_sm rfl, h23]; omega) (by rw [zu_sm rfl]) (fun j hj => by rw [zu_off hj, zu_dn (by omega)])
  refine zb110_0 (D := D + 2) hT hBN hi (by omega) ?_ ?_ ?_ ?_ ?_ ?_ ?_ ?_ ?_ <;> rw [ek, hn]
  · intro q1 q2 q3 hz
    have e1 : secS s kd a = twoS s (a + 1) := by
      unfold secS
      rw [if_neg q1, if_neg q2, if_pos q3]
    have hF1 : zFr (inL yfL) m (zu N 2 3 (N 2 3 + 1)) := hF.set rfl
    have g23 : (zu N 2 3 (N 2 3 + 1)) 2 3 = ((a + 1 : Nat) : Int) := by rw [zu_sm rfl, h23]; omega
    have hF0 : zFr (inL [(2, some 3), (51, none)]) N (zu N 2 3 (N 2 3 + 1)) := zFr.refl.set rfl
    have f51 : ∀ j, (zu N 2 3 (N 2 3 + 1)) 51 j = N 51 j := fun j => zu_dn (by omega)
    generalize zu N 2 3 (N 2 3 + 1) = N1 at hz hF1 g23 hF0 f51 ⊢
    have es : sgC N1 = s := by rw [hsd]; exact sC_y hF1
    have lt : ∀ b, 80 ≤ b → sgC N1 b = -1 := fun b hb => by
      have h22 : 0 ≤ N1 2 2 ∧ N1 2 2 ≤ 80 := hz 2 2
      unfold sgC
      rw [if_neg (by omega)]
    rw [es] at lt
    obtain ⟨t1, t2⟩ := twoS_b lt (a := a + 1) (by omega)
    refine z_num_2 (D := D) (a := a + 1) hT hz g23 (by omega) (fun c1 c2 hz2 => ?_) (fun c => ?_)
    · rw [es] at c1 c2 hz2 ⊢
      have e2 : twoS s (a + 1) = .inr ((rNum s 2 (a + 1) 0).2, (rNum s 2 (a + 1) 0).1) := by
        unfold twoS
        rw [if_pos ⟨c1, c2⟩]
      have hb := t2 _ _ e2
      refine zb110_101 (D := D + 2) hT rfl hz2 hi (by omega) (fun q => by omega) (fun _ hz3 => ?_)
      exact h1 _ _ _ (e1.trans e2) hz3 ((hF0.set rfl).set rfl) (by rw [zu_dn (by omega), zu_sm rfl]) (by rw [zu_sm rfl]) (fun j hj => by rw [zu_off hj, zu_dn (by omega), f51])
    · rw [es] at c
      have e2 : twoS s (a + 1) = .inl (a + 1) := by
        unfold twoS
        rw [if_neg c]
      refine zb110_101 (D := D + 2) hT rfl hz hi (by omega) (fun _ hz3 => ?_) (fun q => absurd rfl q)
      exact h0 _ _ (e1.trans e2) hz3 (hF0.set rfl) (by rw [zu_dn (by omega), g23])
  · intro q1 q2 q3 hz
    exact bad a rfl (by unfold secS; rw [if_neg q1, if_neg q2, if_neg q3]) hz
  · intro q1 q2 q3 hz
    exact bad a rfl (by unfold secS; rw [if_neg q1, if_pos q2, if_neg (by omega)]) hz
  · intro q1 q2 q3 q4 hz
    exact one _ (by unfold secS; rw [if_neg q1, if_pos q2, if_pos (by omega)]) hz
  · intro q1 q2 q3 q4 hz
    exact bad a rfl (by unfold secS; rw [if_neg q1, if_pos q2, if_neg (by omega)]) hz
  · intro q1 q2 hz
    exact one _ (by unfold secS; rw [if_pos q1, if_pos q2]) hz
  · intro q1 q2 q3 hz
    exact bad a rfl (by unfold secS; rw [if_pos q1, if_neg q2, if_neg (by omega)]) hz
  · intro q1 q2 q3 q4 hz
    exact one _ (by unfold secS; rw [if_pos q1, if_neg q2, if_pos (by omega)]) hz
  · intro q1 q2 q3 q4 hz
    exact bad a rfl (by unfold secS; rw [if_pos q1, if_neg q2, if_neg (by omega)]) hz
/-- act i as it was told -/
noncomputable def actOK (s : Nat → Int) (k f g : Nat → Int) (i : Nat) : Prop := ∃ v b, actS s (stY s i) = .inr (f i, v, b) ∧ k i = s (stY s i) ∧ (¬ k i = 107 → g i = v)
theorem z_actC (hT : zRules T) (hsd : s = sgC m) {N : zM} {a i : Nat} (hBN : zB N) (hF : zFr (inL yfL) m N) (h23 : N 2 3 = (a : Int)) (ha : a ≤ 60) (hi : i ≤ 29)
    (h0 : ∀ x M, actS s a = .inl x → zB M → zFr (inL yfL) m M → M 2 3 = (x : Int) → κ (some (zi 0)) M)
    (h1 : ∀ f v b M, actS s a = .inr (f, v, b) → zB M → zFr (inL yfL) m M → M 2 3 = (b : Int) → M 49 i = s a → M 50 i = f → (¬ s a = 107 → M 51 i = v) → (∀ j, j ≠ i → M 49 j = N 49 j ∧ M 50 j = N 50 j ∧ M 51 j = N 51 j) → κ (some (zi 1)) M) : T (D + 5) 108 (0, [(0, zr 48), (1, zr 2), (2, zi (i : Int))], [], N) κ := by
  have hn : nxC N = s a := nx_y hsd hF h23
  have hF1 : zFr (inL yfL) m (zu N 49 i (nxC N)) := hF.set rfl
  have hn1 : nxC (zu N 49 i (nxC N)) = s a := nx_y hsd hF1 (by rw [zu_dn (by omega)]; exact h23)
  have hF2 : zFr (inL yfL) m (zu (zu N 49 i (nxC N)) 2 3 (N 2 3 + 1)) := hF1.set rfl
  have g2 : (zu (zu N 49 i (nxC N)) 2 3 (N 2 3 + 1)) 2 3 = ((a + 1 : Nat) : Int) := by rw [zu_sm rfl, h23]; omega
  have hn2 : nxC (zu (zu N 49 i (nxC N)) 2 3 (N 2 3 + 1)) = s (a + 1) := nx_y hsd hF2 g2
  have k2 : (zu (zu N 49 i (nxC N)) 2 3 (N 2 3 + 1)) 49 i = s a := by rw [zu_dn (by omega), zu_sm rfl, hn]
  have o2 : ∀ j, j ≠ i → (zu (zu N 49 i (nxC N)) 2 3 (N 2 3 + 1)) 49 j = N 49 j := fun j hj => by rw [zu_dn (by omega), zu_off hj]
  have o3 : ∀ j, (zu (zu N 49 i (nxC N)) 2 3 (N 2 3 + 1)) 50 j = N 50 j ∧ (zu (zu N 49 i (nxC N)) 2 3 (N 2 3 + 1)) 51 j = N 51 j := fun j => ⟨by rw [zu_dn (by omega), zu_dn (by omega)], by rw [zu_dn (by omega), zu_dn (by omega)]⟩
  -- the first number is at fault
  have bad : (s a = 119 ∨ s a = 103 ∨ s a = 109) → ¬ (48 ≤ s (a + 1) ∧ s (a + 1) ≤ 57) → zB (zu (zu (zu N 49 i (nxC N)) 2 3 (N 2 3 + 1)) 50 i (-1)) → κ (some (zi 0)) (zu (zu (zu N 49 i (nxC N)) 2 3 (N 2 3 + 1)) 50 i (-1)) := fun q1 q2 hz => h0 (a + 1) _ (by unfold actS; rw [if_neg (by omega), if_pos q1, if_neg q2]) hz (hF2.set rfl) (by rw [zu_dn (by omega)]; exact g2)
  have more : (s a = 119 ∨ s a = 103 ∨ s a = 109) → (48 ≤ s (a + 1) ∧ s (a + 1) ≤ 57) → zB (zu (zu (zu (zu N 49 i (nxC N)) 2 3 (N 2 3 + 1)) 2 3 (N 2 3 + 1 + 1)) 50 i (nxC (zu (zu N 49 i (nxC N)) 2 3 (N 2 3 + 1)) - 48)) → T (D + 4) 110 (0, [(0, zr 48), (1, zr 2), (2, zi (i : Int))], [], (zu (zu (zu (zu N 49 i (nxC N)) 2 3 (N 2 3 + 1)) 2 3 (N 2 3 + 1 + 1)) 50 i (nxC (zu (zu N 49 i (nxC N)) 2 3 (N 2 3 + 1)) - 48))) (fun r m1 => T (D + 5) 108 (84, [(0, zr 48), (1, zr 2), (2, zi (i : Int))], r.toList ++ [], m1) κ) := by
    intro q1 q2 hz
    rw [hn2] at hz ⊢
    have hF3 : zFr (inL yfL) m (zu (zu (zu (zu N 49 i (nxC N)) 2 3 (N 2 3 + 1)) 2 3 (N 2 3 + 1 + 1)) 50 i (s (a + 1) - 48)) := (hF2.set rfl).set rfl
    have g3 : (zu (zu (zu (zu N 49 i (nxC N)) 2 3 (N 2 3 + 1)) 2 3 (N 2 3 + 1 + 1)) 50 i (s (a + 1) - 48)) 2 3 = ((a + 2 : Nat) : Int) := by rw [zu_dn (by omega), zu_sm rfl, h23]; omega
    have k3 : (zu (zu (zu (zu N 49 i (nxC N)) 2 3 (N 2 3 + 1)) 2 3 (N 2 3 + 1 + 1)) 50 i (s (a + 1) - 48)) 49 i = s a := by rw [zu_dn (by omega), zu_dn (by omega)]; exact k2
    have f3 : (zu (zu (zu (zu N 49 i (nxC N)) 2 3 (N 2 3 + 1)) 2 3 (N 2 3 + 1 + 1)) 50 i (s (a + 1) - 48)) 50 i = s (a + 1) - 48 := by rw [zu_sm rfl]
    have p3 : ∀ j, j ≠ i → (zu (zu (zu (zu N 49 i (nxC N)) 2 3 (N 2 3 + 1)) 2 3 (N 2 3 + 1 + 1)) 50 i (s (a + 1) - 48)) 49 j = N 49 j ∧ (zu (zu (zu (zu N 49 i (nxC N)) 2 3 (N 2 3 + 1)) 2 3 (N 2 3 + 1 + 1)) 50 i (s (a + 1) - 48)) 50 j = N 50 j ∧ (zu (zu (zu (zu N 49 i (nxC N)) 2 3 (N 2 3 + 1)) 2 3 (N 2 3 + 1 + 1)) 50 i (s (a + 1) - 48)) 51 j = N 51 j := fun j hj => ⟨by rw [zu_dn (by omega), zu_dn (by omega)]; exact o2 j hj, by rw [zu_off hj, zu_dn (by omega)]; exact (o3 j).1, by rw [zu_dn (by omega), zu_dn (by omega)]; exact (o3 j).2⟩
    generalize (zu (zu (zu (zu N 49 i (nxC N)) 2 3 (N 2 3 + 1)) 2 3 (N 2 3 + 1 + 1)) 50 i (s (a + 1) - 48)) = N3 at hz hF3 g3 k3 f3 p3 ⊢
    refine z_secC (D := D) (kd := s a) hT hsd hz hF3 g3 (by omega) hi k3 q1 (fun x M e1 hBM hFM g => ?_) (fun v b M e1 hBM hFM g g51 go => ?_)
    · refine zb108_84 (D := D + 2) hT rfl (by omega) (fun _ => ?_) (fun q => absurd rfl q)
      exact h0 x M (by unfold actS; rw [if_neg (by omega), if_pos q1, if_pos q2, e1]) hBM (hF3.trans (hFM.sub (inL_sub (by decide)))) g
    · refine zb108_84 (D := D + 2) hT rfl (by omega) (fun q => by omega) (fun _ => ?_)
      refine h1 (s (a + 1) - 48) v b M (by unfold actS; rw [if_neg (by omega), if_pos q1, if_pos q2, e1]) hBM (hF3.trans (hFM.sub (inL_sub (by decide)))) g ((hFM 49 i rfl).trans k3) ((hFM 50 i rfl).trans f3) (fun _ => g51) (fun j hj => ?_)
      obtain ⟨p1, p2, p4⟩ := p3 j hj
      exact ⟨(hFM 49 j rfl).trans p1, (hFM 50 j rfl).trans p2, (go j hj).trans p4⟩
  refine zb108_0 (D := D + 2) hT hBN hi (by omega) ?_ ?_ ?_ ?_ ?_ ?_ ?_ ?_ ?_ ?_ ?_
  · rw [hn1]
    intro q hz
    have fin : ∀ f b M, actS s a = .inr (f, 0, b) → zB M → zFr (inL [(2, some 3), (50, none)]) (zu (zu N 49 i (nxC N)) 2 3 (N 2 3 + 1)) M → M 2 3 = ((b : Nat) : Int) → M 50 i = f → (∀ j, j ≠ i → M 50 j = N 50 j) → κ (some (zi 1)) M := fun f b M e1 hBM hFM g gf go => h1 f 0 b M e1 hBM (hF2.trans (hFM.sub (inL_sub (by decide)))) g ((hFM 49 i rfl).trans k2) gf (fun x => absurd q x) (fun j hj => ⟨(hFM 49 j rfl).trans (o2 j hj), go j hj, (hFM 51 j rfl).trans (o3 j).2⟩)
    refine zb109_0 (D := D + 2) hT hz hi (by omega) ?_ ?_ ?_ <;> rw [hn2]
    · intro c hz2
      refine zb108_25 (D := D + 2) hT rfl (by omega) (fin 1 (a + 1) _ (by unfold actS; rw [if_pos q, if_neg (by omega)]) hz2 (zFr.refl.set rfl) (by rw [zu_dn (by omega)]; exact g2) (by rw [zu_sm rfl]) (fun j hj => by rw [zu_off hj]; exact (o3 j).1))
    · intro c1 c2 hz2
      refine zb108_25 (D := D + 2) hT rfl (by omega) (fin (s (a + 1) - 48) (a + 2) _ (by unfold actS; rw [if_pos q, if_pos (by omega)]) hz2 ((zFr.refl.set rfl).set rfl) (by rw [zu_dn (by omega), zu_sm rfl, g2]; omega) (by rw [zu_sm rfl]) (fun j hj => by rw [zu_off hj, zu_dn (by omega)]; exact (o3 j).1))
    · intro c1 c2 hz2
      refine zb108_25 (D := D + 2) hT rfl (by omega) (fin 1 (a + 1) _ (by unfold actS; rw [if_pos q, if_neg (by omega)]) hz2 (zFr.refl.set rfl) (by rw [zu_dn (by omega)]; exact g2) (by rw [zu_sm rfl]) (fun j hj => by rw [zu_off hj]; exact (o3 j).1))
  · rw [hn1, hn2]
    exact fun _ q1 q2 hz => bad (by omega) (by omega) hz
  · rw [hn1]
    intro _ q1 q2 q3 hz
    rw [hn2] at q2 q3
    exact more (by omega) (by omega) hz
  · rw [hn1, hn2]
    exact fun _ q1 _ q2 hz => bad (by omega) (by omega) hz
  · rw [hn1, hn2]
    exact fun _ _ q1 q2 hz => bad (by omega) (by omega) hz
  · rw [hn1]
    intro _ _ q1 q2 q3 hz
    rw [hn2] at q2 q3
    exact more (by omega) (by omega) hz
  · rw [hn1, hn2]
    exact fun _ _ q1 _ q2 hz => bad (by omega) (by omega) hz
  · rw [hn1, hn2]
    exact fun _ _ _ q1 q2 hz => bad (by omega) (by omega) hz
  · rw [hn1]
    intro _ _ _ q1 q2 q3 hz
    rw [hn2] at q2 q3
    exact more (by omega) (by omega) hz
  · rw [hn1, hn2]
    exact fun _ _ _ q1 _ q2 hz => bad (by omega) (by omega) hz
  · rw [hn1]
    exact fun q1 q2 q3 q4 hz => h0 a _ (by unfold actS; rw [if_neg q1, if_neg (by omega)]) hz hF1 (by rw [zu_dn (by omega)]; exact h23)
/-- all acts, by the class; L: THE TEXT's length, L60: how much of it is read -/
theorem z_actsC (hT : zRules T) (hB : zB m) (hsd : s = sgC m) {L60 : Nat} (hL : m 2 1 = (L : Int)) (h60 : L60 ≤ 60) (hs : ∀ a, L60 ≤ a → s a = -1) (h0 : m 2 3 = 0)
    (h1 : ∀ x M1, yrP s L 30 0 0 = .inl x → zB M1 → zFr (inL yfL) m M1 → M1 2 3 = (x : Int) → κ (some (zi (-1))) M1)
    (h2 : ∀ n M1, yrP s L 30 0 0 = .inr n → 1 ≤ n → n ≤ 30 → zB M1 → zFr (inL yfL) m M1 → (∀ i, i < n → actOK s (M1 49) (M1 50) (M1 51) i) → κ (some (zi (n : Int))) M1) : T (D + 6) 107 (0, [(0, zr 48), (1, zr 2)], [], m) κ := by
  have lt : ∀ b, ¬ s b = -1 → b < L60 := fun b h => by
    rcases Nat.lt_or_ge b L60 with x | x
    · exact x
    · exact absurd (hs b x) h
  have key : ∀ (j p : Nat) (M : zM), p + j = 30 → stY s p ≤ L60 → yrP s L j p (stY s p) = yrP s L 30 0 0 → zB M → zFr (inL yfL) m M → M 2 3 = (stY s p : Int) → (∀ i, i < p → actOK s (M 49) (M 50) (M 51) i) → T (D + 6) 107 (2, [(0, zr 48), (1, zr 2), (2, zi (p : Int))], [], M) κ := by
    intro j
    induction j with
    | zero =>
      intro p M hp hst hal hBM hF h23 hpl
      rw [yrP] at hal
      exact zb107_2 (D := D + 2) hT rfl hBM (by omega) (fun _ => h1 _ M hal.symm hBM hF h23) (fun q => by omega)
    | succ j ih =>
      intro p M hp hst hal hBM hF h23 hpl
      refine zb107_2 (D := D + 2) hT rfl hBM (by omega) (fun q => by omega) (fun _ => ?_)
      obtain ⟨t1, t2⟩ := actS_b hs hst
      refine z_actC (D := D) hT hsd hBM hF h23 (by omega) (by omega) (fun x M1 e1 hB1 hF1 g => ?_) (fun f v b M1 e1 hB1 hF1 g g49 g50 g51 go => ?_)
      · rw [yrP, e1] at hal
        have := t1 x e1
        exact zb107_14 (D := D + 2) hT rfl hB1 (by omega) (by omega) (by omega) (fun q => absurd rfl q) (fun q => absurd rfl q) (fun q => absurd rfl q) (fun _ => h1 x M1 hal.symm hB1 hF1 g)
      · obtain ⟨b1, b2, b3, b4, b5, b6, b7⟩ := t2 f v b e1
        rw [yrP, e1] at hal
        dsimp only at hal
        have hE : actE s (stY s p) = b := by
          unfold actE
          rw [e1]
        have e21 : M1 2 1 = (L : Int) := (hF1 2 1 rfl).trans hL
        have hn : nxC M1 = s b := nx_y hsd hF1 g
        have new : ∀ i, i < p + 1 → actOK s (M1 49) (M1 50) (M1 51) i := fun i hi => by
          by_cases e : i = p
          · subst e
            exact ⟨v, b, by rw [g50]; exact e1, g49, fun q => g51 (by rw [← g49]; exact q)⟩
          · obtain ⟨w, c, a1, a2, a3⟩ := hpl i (by omega)
            obtain ⟨p1, p2, p3⟩ := go i e
            exact ⟨w, c, by rw [p2]; exact a1, by rw [p1]; exact a2, fun q => by rw [p3]; exact a3 (by rw [← p1]; exact q)⟩
        refine zb107_14 (D := D + 2) hT rfl hB1 (by omega) (by omega) (by omega) (fun _ q1 q2 hz => ?_) (fun _ q1 q2 => ?_) (fun _ q1 => ?_) (fun q => by omega)
        · rw [hn] at q2
          rw [if_neg (by omega), if_pos q2] at hal
          have := lt b (by omega)
          refine ih (p + 1) _ (by omega) (by rw [stY, hE]; omega) (by rw [stY, hE]; exact hal) hz (hF1.set rfl) (by rw [zu_sm rfl, g, stY, hE]; omega) (fun i hi => ?_)
          rw [zu_dnR (by omega), zu_dnR (by omega), zu_dnR (by omega)]
          exact new i hi
        · rw [hn] at q2
          rw [if_neg (by omega), if_neg q2] at hal
          exact h1 b M1 hal.symm hB1 hF1 g
        · rw [if_pos (by omega)] at hal
          exact h2 (p + 1) M1 hal.symm (by omega) (by omega) hB1 hF1 new
  exact zb107_0 (D := D + 2) hT hB (key 30 0 m (by omega) (by rw [stY]; omega) rfl hB zFr.refl (by rw [h0]; rfl) (fun i hi => by omega))
end ZActs
end
