/-! ready(): it ends, and leaves what matters. -/
noncomputable def popc (x : Nat) : Nat := (List.range 6).countP (fun i => x.testBit i)
theorem popc_low : ∀ x : Nat, x < 64 → ¬ x = 0 → popc (x &&& (x - 1)) < popc x := by decide +kernel
theorem popc_6 : ∀ x : Nat, x < 64 → popc x ≤ 6 := by decide +kernel
theorem ntz_n : ∀ x : Nat, x < 64 → ¬ x = 0 → z_and (z_xor (x : Int) (-1)) ((x : Int) - 1) = 0 ∨ z_and (z_xor (x : Int) (-1)) ((x : Int) - 1) = 1 ∨ z_and (z_xor (x : Int) (-1)) ((x : Int) - 1) = 3 ∨ z_and (z_xor (x : Int) (-1)) ((x : Int) - 1) = 7 ∨ z_and (z_xor (x : Int) (-1)) ((x : Int) - 1) = 15 ∨ z_and (z_xor (x : Int) (-1)) ((x : Int) - 1) = 31 := by decide +kernel
theorem ntz_b0 : ∀ n : Nat, n < 7 → ∀ x : Nat, x < 2 ^ n → ¬ x = 0 → z_and (z_xor (x : Int) (-1)) ((x : Int) - 1) = 0 → 1 ≤ n := by decide +kernel
theorem ntz_b1 : ∀ n : Nat, n < 7 → ∀ x : Nat, x < 2 ^ n → ¬ x = 0 → z_and (z_xor (x : Int) (-1)) ((x : Int) - 1) = 1 → 2 ≤ n := by decide +kernel
theorem ntz_b2 : ∀ n : Nat, n < 7 → ∀ x : Nat, x < 2 ^ n → ¬ x = 0 → z_and (z_xor (x : Int) (-1)) ((x : Int) - 1) = 3 → 3 ≤ n := by decide +kernel
theorem ntz_b3 : ∀ n : Nat, n < 7 → ∀ x : Nat, x < 2 ^ n → ¬ x = 0 → z_and (z_xor (x : Int) (-1)) ((x : Int) - 1) = 7 → 4 ≤ n := by decide +kernel
theorem ntz_b4 : ∀ n : Nat, n < 7 → ∀ x : Nat, x < 2 ^ n → ¬ x = 0 → z_and (z_xor (x : Int) (-1)) ((x : Int) - 1) = 15 → 5 ≤ n := by decide +kernel
theorem ntz_b5 : ∀ n : Nat, n < 7 → ∀ x : Nat, x < 2 ^ n → ¬ x = 0 → z_and (z_xor (x : Int) (-1)) ((x : Int) - 1) = 31 → 6 ≤ n := by decide +kernel
section ZReady
variable {T : Nat → Nat → zG → (Option zA → zM → Prop) → Prop} {B : Int}
theorem z_ntzP (hT : zRules T) {D : Nat} {κ : Option zA → zM → Prop} {m : zM} {x n : Nat} (hn : n ≤ 6) (hx : x < 2 ^ n) (h0 : ¬ x = 0) (hk : ∀ t : Nat, t < n → κ (some (zi (t : Int))) m) : T (D + 1) 292 (0, [(0, zi (x : Int))], [], m) κ := by
  have p6 : 2 ^ n ≤ 2 ^ 6 := Nat.pow_le_pow_right (by omega) (by omega)
  have h := zb292_0 (D := D) (κ := κ) (m := m) (x := x) hT (by omega)
  have e1 : z_ush 31 4 = 1 := by decide +kernel
  have go : ∀ L : Int, L < n → ∀ v : Int, 0 ≤ v → v ≤ L → κ (some (zi v)) m := fun L hL v h1 h2 => by
    have := hk v.toNat (by omega)
    rwa [Int.toNat_of_nonneg h1] at this
  rcases ntz_n x (by omega) h0 with e | e | e | e | e | e
  · have hh := ntz_b0 n (by omega) x hx h0 e
    rw [e] at h
    apply h
    all_goals (intros; first | omega | exact go 0 (by omega) _ (by decide +kernel) (by decide +kernel))
  · have hh := ntz_b1 n (by omega) x hx h0 e
    rw [e] at h
    apply h
    all_goals (intros; first | omega | exact go 1 (by omega) _ (by decide +kernel) (by decide +kernel))
  · have hh := ntz_b2 n (by omega) x hx h0 e
    rw [e] at h
    apply h
    all_goals (intros; first | omega | exact go 2 (by omega) _ (by decide +kernel) (by decide +kernel))
  · have hh := ntz_b3 n (by omega) x hx h0 e
    rw [e] at h
    apply h
    all_goals (intros; first | omega | exact go 3 (by omega) _ (by decide +kernel) (by decide +kernel))
  · have hh := ntz_b4 n (by omega) x hx h0 e
    rw [e] at h
    apply h
    all_goals (intros; first | omega | exact go 4 (by omega) _ (by decide +kernel) (by decide +kernel))
  · have hh := ntz_b5 n (by omega) x hx h0 e
    rw [e, e1] at h
    apply h
    all_goals (intros; first | omega | exact go 5 (by omega) _ (by decide +kernel) (by decide +kernel))
theorem z_canReady (hT : zRules T) {m : zM} {sc : zSc} {n k : Nat} (hI : Inv B sc n k m) : ∀ (j : Nat) (D : Nat) (κ : Option zA → zM → Prop) (M : zM) (x u : Nat), popc x ≤ j → x < 2 ^ n → u ≤ 255 → zB M → Agree coreK m M →
    (∀ v M1, (0 ≤ v ∧ v ≤ 1) → zB M1 → Agree coreK m M1 → κ (some (zi v)) M1) → T (D + j + 172) 265 (0, [(0, zr 74), (1, zi (x : Int)), (2, zi (u : Int))], [], M) κ := by
  have i1 := hI.1
  have h4 := hI.2.2.2.1
  have b17 : 0 ≤ m 17 0 ∧ m 17 0 ≤ 6 := i1 17 0
  have b171 : 0 ≤ m 17 1 ∧ m 17 1 ≤ 8 := i1 17 1
  have n1 := h4.1.1
  have k1 := h4.2.1.1
  have k2 := h4.2.1.2
  have p6 : 2 ^ n ≤ 2 ^ 6 := Nat.pow_le_pow_right (by omega) (by omega)
  intro j
  induction j with
  | zero =>
    intro D κ M x u hx hxn hu hBM hA hk
    have x0 : x = 0 := by
      by_cases e : x = 0
      · exact e
      · have := popc_low x (by omega) e
        omega
    subst x0
    exact zb265_0 (D := D + 170) hT hBM (by omega) hu (fun q => absurd rfl q) (fun _ => hk 1 M (by omega) hBM hA)
  | succ j ih =>
    intro D κ M x u hx hxn hu hBM hA hk
    by_cases x0 : x = 0
    · subst x0
      exact zb265_0 (D := D + j + 171) hT hBM (by omega) hu (fun q => absurd rfl q) (fun _ => hk 1 M (by omega) hBM hA)
    refine zb265_0 (D := D + j + 171) hT hBM (by omega) hu (fun _ => ?_) (fun q => by omega)
    refine z_ntzP (D := D + j + 171) (n := n) hT (by omega) hxn x0 (fun t ht => ?_)
    refine zb265_10 (D := D + j + 171) hT rfl hBM (by omega) hu (by omega) ?_
    have loop : ∀ (i c : Nat) (M : zM), c + i = k → zB M → Agree coreK m M → T (D + j + 173) 265 (14, [(0, zr 74), (1, zi (x : Int)), (2, zi (u : Int)), (3, zi (t : Int)), (4, zi (c : Int))], [], M) κ := by
      intro i
      induction i with
      | zero =>
        intro c M hc hBM hA
        have e6 : M 74 6 = (k : Int) := (hA 74 6 rfl).trans k2
        exact zb265_14 (D := D + j + 171) hT rfl hBM (by omega) hu (by omega) (by omega) (fun _ => hk 0 M (by omega) hBM hA) (fun q => by omega) (fun q => by omega)
      | succ i ih2 =>
        intro c M hc hBM hA
        have e6 : M 74 6 = (k : Int) := (hA 74 6 rfl).trans k2
        have b12 : -1 ≤ M 75 (c + 12) ∧ M 75 (c + 12) ≤ 99 := zSg hBM 75 12 20 (-1) 99 rfl (c + 12) (by omega) (by omega)
        have bpl := (h4.2.2.2.2.1 t (by omega)).1
        obtain ⟨pl, hpl⟩ : ∃ pl : Nat, m 75 t = (pl : Int) := ⟨(m 75 t).toNat, by omega⟩
        refine zb265_14 (D := D + j + 171) hT rfl hBM (by omega) hu (by omega) (by omega) (fun q => by omega) (fun _ _ => ?_) (fun _ _ => ih2 (c + 1) M (by omega) hBM hA)
        refine z_lawInF (d := 0) (pl := pl) (D := D + j + 1) hT hI hBM (hA.sub (fun q hq => List.mem_append.mpr (Or.inr (List.mem_append.mpr (Or.inl hq))))) (funext fun j => hA 78 j rfl) (hA 75 57 rfl) (by omega) ((hA 75 t rfl).trans hpl) (by omega) (fun M1 hB1 hF1 => ?_)
        have hA1 : Agree coreK m M1 := hA.trans (.of hF1 rfl)
        refine zb265_48 (D := D + j + 171) hT rfl hB1 (by omega) hu (by omega) (by omega) b12 laFB (fun _ => ih2 (c + 1) M1 (by omega) hB1 hA1) (fun _ => ?_)
        have en : z_and (x : Int) ((x : Int) - 1) = ((x &&& (x - 1) : Nat) : Int) := by
          rw [show (x : Int) - 1 = ((x - 1 : Nat) : Int) by omega, z_andN (by omega) (by omega)]
        have eo : z_or (u : Int) (z_shl 1 (c : Int)) = ((u ||| 2 ^ c : Nat) : Int) := by
          have p8 : 2 ^ c ≤ 2 ^ 8 := Nat.pow_le_pow_right (by omega) (by omega)
          rw [z_shl1T c (by omega), z_orN (by omega) (by omega)]
        have ho : u ||| 2 ^ c < 2 ^ 8 := Nat.or_lt_two_pow (by omega) (Nat.pow_lt_pow_right (by omega) (by omega))
        have hl : x &&& (x - 1) ≤ x := Nat.and_le_left
        have hp := popc_low x (by omega) x0
        rw [en, eo]
        refine ih D _ M1 (x &&& (x - 1)) (u ||| 2 ^ c) (by omega) (by omega) (by omega) hB1 hA1 (fun v M2 hv hB2 hA2 => ?_)
        exact zb265_66 (D := D + j + 171) hT rfl hB2 (by omega) hu (by omega) (by omega) hv (fun _ => ih2 (c + 1) M2 (by omega) hB2 hA2) (fun _ => hk 1 M2 (by omega) hB2 hA2)
    exact loop k 0 M (by omega) hBM hA
theorem w_ready0 (hT : zRules T) : Way T 145 266 [(0, zr 1)] [(0, zr 74)] 5 179 B B False := by
  rintro D m sc ⟨n, k, hI⟩ κ hκ
  have hI0 := hI
  obtain ⟨i1, i2, i3, i4, i5, i6, i7, i8, i9, i10, i11⟩ := hI
  obtain ⟨⟨n1, n2⟩, ⟨k1, k2⟩, hh, hRel, hok⟩ := i4
  have b17 : 0 ≤ m 17 0 ∧ m 17 0 ≤ 6 := i1 17 0
  have b171 : 0 ≤ m 17 1 ∧ m 17 1 ≤ 8 := i1 17 1
  have p6 : 2 ^ n ≤ 2 ^ 6 := Nat.pow_le_pow_right (by omega) (by omega)
  have ref : ∀ (r : Option zA) (M0 : zM), zB M0 → Agree coreK m M0 → κ r M0 := by
    intro r M0 hB0 hA0
    refine hκ _ _ (fun D2 κ2 h2 => ?_)
    have fin : ∀ r2 M1, zB M1 → Agree coreK m M1 → κ2 r2 M1 := fun r2 M1 hB1 hA1 => h2 _ _ (fun x => x.elim) ⟨n, k, Inv_fr hA1 hB1 hI0⟩
    refine zb266_0 (D := D2 + 176) hT hB0 (fun hz => ?_)
    have loop : ∀ (j x b : Nat) (M : zM), x + j = 2 ^ n → b ≤ 63 → zB M → Agree coreK m M → T (D2 + 179) 266 (9, [(0, zr 74), (1, zi (b : Int)), (2, zi (x : Int))], [], M) κ2 := by
      intro j
      induction j with
      | zero =>
        intro x b M hx hb hBM hA
        have e4 : z_shl 1 (M 74 4) = ((2 ^ n : Nat) : Int) := by rw [hA 74 4 rfl, n2, z_shl1T n (by omega)]
        generalize 2 ^ n = N at p6 hx e4
        refine zb266_9 (D := D2 + 176) hT rfl hBM hb (by omega) (fun _ hz2 => ?_) (fun q => by omega)
        refine zb293_0 (D := D2 + 177) hT (by omega) ?_
        exact zb266_61 (D := D2 + 176) hT rfl (z_andB _ _) (fin _ _ hz2 (hA.trans (.of (L := [(74, some 11), (81, none)]) (((zFr.refl.set rfl).set rfl).set rfl) rfl)))
      | succ j ih =>
        intro x b M hx hb hBM hA
        have e4 : z_shl 1 (M 74 4) = ((2 ^ n : Nat) : Int) := by rw [hA 74 4 rfl, n2, z_shl1T n (by omega)]
        have hxn : x < 2 ^ n := by omega
        have hx63 : x ≤ 63 := by omega
        have hlt : (x : Int) < z_shl 1 (M 74 4) := by
          rw [e4]
          exact Int.ofNat_lt.mpr hxn
        have nx := fun b M hb h1 h2 => ih (x + 1) b M (by omega) hb h1 h2
        refine zb266_9 (D := D2 + 176) hT rfl hBM hb (by omega) (fun q => absurd hlt q) (fun _ => ?_)
        refine zb293_0 (D := D2 + 177) hT (by omega) ?_
        refine zb266_23 (D := D2 + 176) hT rfl hBM hb hx63 (z_andB _ _) ?_
        refine zb293_0 (D := D2 + 177) hT (by omega) ?_
        refine zb266_27 (D := D2 + 176) hT rfl hBM hb hx63 (z_andB _ _) (z_andB _ _) (fun _ => nx b M hb hBM hA) (fun _ => ?_)
        have hp := popc_6 x (by omega)
        refine z_canReady hT hI0 6 D2 _ M x 0 hp hxn (by omega) hBM hA (fun v M1 hv hB1 hA1 => ?_)
        exact zb266_36 (D := D2 + 176) hT rfl hB1 hb hx63 hv (fun _ => nx b M1 hb hB1 hA1) (fun _ => nx x M1 hx63 hB1 hA1)
    have p1 : 1 ≤ 2 ^ n := Nat.one_le_two_pow
    exact loop (2 ^ n - 1) 1 0 _ (by omega) (by omega) hz (hA0.trans (.of (L := [(74, some 12)]) (zFr.refl.set rfl) rfl))
  have loop : ∀ (j t w o : Nat) (M : zM), t + j = n → w ≤ 255 → o < 2 ^ t → zB M → zFr (inL [(13, none)]) m M → T (D + 5) 145 (6, [(0, zr 1), (1, zi (w : Int)), (2, zi (o : Int)), (3, zi (t : Int))], [], M) κ := by
    intro j
    induction j with
    | zero =>
      intro t w o M ht hw ho hBM hF
      have et : t = n := by omega
      subst et
      have e17 : M 17 0 = (t : Int) := (hF 17 0 rfl).trans n1
      refine zb145_6 hT rfl hBM hw (by omega) (by omega) (fun _ hz => ?_) (fun q => by omega)
      refine zb293_0 (D := D + 3) hT (by omega) ?_
      exact zb145_69 hT rfl (z_andB _ _) (ref _ _ hz ((Agree.of hF rfl).trans (.of (L := [(72, some 1), (73, none)]) ((zFr.refl.set rfl).set rfl) rfl)))
    | succ j ih =>
      intro t w o M ht hw ho hBM hF
      have e17 : M 17 0 = (n : Int) := (hF 17 0 rfl).trans n1
      have pt : 2 ^ t ≤ 2 ^ 6 := Nat.pow_le_pow_right (by omega) (by omega)
      have pt1 : 2 ^ (t + 1) = 2 ^ t + 2 ^ t := by rw [Nat.pow_succ]; omega
      obtain ⟨r1, r2⟩ := hRel.1 t (by omega)
      have h18 := (hh t (by omega)).2
      have bpl := (hok.1 t (by omega)).1
      obtain ⟨pl, hpl⟩ : ∃ pl : Nat, m 75 t = (pl : Int) := ⟨(m 75 t).toNat, by omega⟩
      have hA : Agree KL m M := .of hF rfl
      refine zb145_6 hT rfl hBM hw (by omega) (by omega) (fun q => by omega) (fun _ => ?_)
      refine z_lawNow (pl := pl) hT hBM (by omega) (by rw [hF 18 t rfl]; omega) (by rw [hF 19 t rfl]; omega) (by omega) (hA.law.1 i3).1 (fun M1 hB1 hF1 => ?_)
      have hFa := hF.trans (hF1.sub rowL13)
      refine zb145_26 hT rfl hB1 hw (by omega) (by omega) LWB ?_
      have hl := LWB (m := M) (h := M 18 t) (i := (t : Int)) (p := pl) (w := M 17 11)
      generalize LW M (M 18 t) (t : Int) pl (M 17 11) = l at hl ⊢
      have fl : ∀ v : Int, (-1 ≤ v ∧ v ≤ 7) → T (D + 5) 145 (30, [(0, zr 1), (1, zi (w : Int)), (2, zi (o : Int)), (3, zi (t : Int))], [zi v], M1) κ := by
        intro v hv
        refine zb145_30 hT rfl hB1 hw (by omega) (by omega) hv (fun _ => ih (t + 1) w o M1 (by omega) hw (by omega) hB1 hFa) (fun q => ?_)
        obtain ⟨c, rfl⟩ : ∃ c : Nat, v = (c : Int) := ⟨v.toNat, by omega⟩
        have p8 : 2 ^ c ≤ 2 ^ 7 := Nat.pow_le_pow_right (by omega) (by omega)
        have ho2 : w ||| 2 ^ c < 2 ^ 8 := Nat.or_lt_two_pow (by omega) (by omega)
        have ho3 : o ||| 2 ^ t < 2 ^ (t + 1) := Nat.or_lt_two_pow (by omega) (by omega)
        rw [z_shl1T c (by omega), z_shl1T t (by omega), z_orN (by omega) (by omega), z_orN (by omega) (by omega)]
        exact ih (t + 1) (w ||| 2 ^ c) (o ||| 2 ^ t) M1 (by omega) (by omega) ho3 hB1 hFa
      have find : ∀ (i c : Nat), c + i = k → T (D + 4) 31 (2, [(0, zr 17), (1, zi l), (2, zi (w : Int)), (3, zi (c : Int))], [], M1) (fun r m1 => T (D + 5) 145 (30, [(0, zr 1), (1, zi (w : Int)), (2, zi (o : Int)), (3, zi (t : Int))], r.toList ++ [], m1) κ) := by
        intro i
        induction i with
        | zero =>
          intro c hc
          have e171 : M1 17 1 = (k : Int) := (hFa 17 1 rfl).trans k1
          exact zb31_2 (D := D + 3) hT rfl hB1 hl hw (by omega) (fun _ => fl (-1) (by omega)) (fun q => by omega) (fun q => by omega) (fun q => by omega)
        | succ i ih2 =>
          intro c hc
          have e171 : M1 17 1 = (k : Int) := (hFa 17 1 rfl).trans k1
          exact zb31_2 (D := D + 3) hT rfl hB1 hl hw (by omega) (fun q => by omega) (fun _ _ => ih2 (c + 1) (by omega)) (fun _ _ _ => ih2 (c + 1) (by omega)) (fun _ _ _ => fl (c : Int) (by omega))
      exact zb31_0 (D := D + 3) hT hB1 hl hw (find k 0 (by omega))
  exact zb145_0 hT i1 (loop n 0 0 0 m (by omega) (by omega) (by rw [Nat.pow_zero]; omega) i1 zFr.refl)
end ZReady
