/-! dress(): it ends, and leaves what matters. -/
noncomputable def popc8 (x : Nat) : Nat := (List.range 8).countP (fun i => x.testBit i)
theorem bc_eq : ∀ x : Nat, x < 256 → (z_and (((z_and (((z_and ((x : Int) - (z_and (z_ush (x : Int) 1) 1431655765)) 858993459) + (z_and (z_ush ((x : Int) - (z_and (z_ush (x : Int) 1) 1431655765)) 2) 858993459)) + (z_ush ((z_and ((x : Int) - (z_and (z_ush (x : Int) 1) 1431655765)) 858993459) + (z_and (z_ush ((x : Int) - (z_and (z_ush (x : Int) 1) 1431655765)) 2) 858993459)) 4)) 252645135) + (z_ush (z_and (((z_and ((x : Int) - (z_and (z_ush (x : Int) 1) 1431655765)) 858993459) + (z_and (z_ush ((x : Int) - (z_and (z_ush (x : Int) 1) 1431655765)) 2) 858993459)) + (z_ush ((z_and ((x : Int) - (z_and (z_ush (x : Int) 1) 1431655765)) 858993459) + (z_and (z_ush ((x : Int) - (z_and (z_ush (x : Int) 1) 1431655765)) 2) 858993459)) 4)) 252645135) 8)) + (z_ush ((z_and (((z_and ((x : Int) - (z_and (z_ush (x : Int) 1) 1431655765)) 858993459) + (z_and (z_ush ((x : Int) - (z_and (z_ush (x : Int) 1) 1431655765)) 2) 858993459)) + (z_ush ((z_and ((x : Int) - (z_and (z_ush (x : Int) 1) 1431655765)) 858993459) + (z_and (z_ush ((x : Int) - (z_and (z_ush (x : Int) 1) 1431655765)) 2) 858993459)) 4)) 252645135) + (z_ush (z_and (((z_and ((x : Int) - (z_and (z_ush (x : Int) 1) 1431655765)) 858993459) + (z_and (z_ush ((x : Int) - (z_and (z_ush (x : Int) 1) 1431655765)) 2) 858993459)) + (z_ush ((z_and ((x : Int) - (z_and (z_ush (x : Int) 1) 1431655765)) 858993459) + (z_and (z_ush ((x : Int) - (z_and (z_ush (x : Int) 1) 1431655765)) 2) 858993459)) 4)) 252645135) 8)) 16)) 63) = ((popc8 x : Nat) : Int) := by decide +kernel
theorem popc8_8 : ∀ x : Nat, x < 256 → popc8 x ≤ 8 := by decide +kernel
noncomputable def pcn (x : Nat) : Nat → Nat
  | 0 => 0
  | i + 1 => pcn x i + (if x.testBit i then 1 else 0)
theorem pcn_le : ∀ x : Nat, x < 64 → ∀ i : Nat, i < 7 → pcn x i ≤ popc8 x := by decide +kernel
theorem set_p8 : ∀ f : Nat, f < 8 → ∀ x : Nat, x < 256 → x.testBit f = false → popc8 (x ||| 2 ^ f) = popc8 x + 1 := by decide +kernel
theorem full_p8 : ∀ N : Nat, N < 9 → ∀ x : Nat, x < 256 → (∀ q, q < N → x.testBit q = true) → N ≤ popc8 x := by decide +kernel
theorem bit_no8 {x t : Nat} (hx : x < 256) (ht : t ≤ 8) (q : z_and (z_shr (x : Int) (t : Int)) 1 = 0) : x.testBit t = false := by
  rw [z_bit (by omega) (by omega)] at q
  cases hb : x.testBit t with
  | false => rfl
  | true =>
    rw [hb, if_pos rfl] at q
    cases q
theorem bit_yes8 {x t : Nat} (hx : x < 256) (ht : t ≤ 8) (q : ¬ z_and (z_shr (x : Int) (t : Int)) 1 = 0) : x.testBit t = true := by
  rw [z_bit (by omega) (by omega)] at q
  cases hb : x.testBit t with
  | true => rfl
  | false =>
    rw [hb, if_neg (by simp)] at q
    exact absurd rfl q
theorem orB8 {x f : Nat} (hx : x < 256) (hf : f < 8) : z_or (x : Int) (z_shl 1 (f : Int)) = ((x ||| 2 ^ f : Nat) : Int) ∧ x ||| 2 ^ f < 256 := by
  have p : 2 ^ f ≤ 2 ^ 7 := Nat.pow_le_pow_right (by omega) (by omega)
  refine ⟨?_, Nat.or_lt_two_pow (n := 8) hx (by omega)⟩
  rw [z_shl1T f (by omega), z_orN (by omega) (by omega)]
section ZDress
variable {T : Nat → Nat → zG → (Option zA → zM → Prop) → Prop} {B : Int}
theorem z_bitCount (hT : zRules T) {D : Nat} {κ : Option zA → zM → Prop} {m : zM} {x : Nat} (hx : x < 256) (h : κ (some (zi ((popc8 x : Nat) : Int))) m) : T (D + 1) 293 (0, [(0, zi (x : Int))], [], m) κ := by
  refine zb293_0 hT (by omega) ?_
  rw [bc_eq x hx]
  exact h
theorem z_costWith0 (hT : zRules T) {D : Nat} {κ : Option zA → zM → Prop} {m : zM} {x : Nat} {f : Int} (hB : zB m) (hx : x ≤ 255) (hf : -1 ≤ f ∧ f ≤ 7) (hk : ∀ v : Int, isI v → κ (some (zi v)) m) : T (D + 4) 89 (0, [(0, zr 52), (1, zr 17), (2, zi (x : Int)), (3, zi f)], [], m) κ := by
  have p8 := popc8_8 x (by omega)
  refine zb89_0 hT hB hx hf ?_
  refine z_bitCount (D := D + 2) hT (by omega) ?_
  refine zb89_4 hT rfl hB hx hf (by omega) (fun _ => hk 0 (by unfold isI; omega)) (fun _ _ => hk 0 (by unfold isI; omega)) (fun q _ _ => ?_) (fun _ _ _ => hk 0 (by unfold isI; omega))
  obtain ⟨g, rfl⟩ : ∃ g : Nat, f = (g : Int) := ⟨f.toNat, by omega⟩
  have b53 : 0 ≤ m 53 (((popc8 x : Nat) : Int).toNat) ∧ m 53 (((popc8 x : Nat) : Int).toNat) ≤ 99 := hB 53 _
  refine z_costC (D := D) hT hB (by omega) b53 (fun v hv => ?_)
  obtain ⟨e1, e2⟩ := orB8 (x := x) (f := g) (by omega) (by omega)
  exact zb89_37 hT rfl hB hx (by omega) hv (by rw [e1]; omega) (hk _ (wrB _))
theorem z_firstCh0 (hT : zRules T) {D : Nat} {κ : Option zA → zM → Prop} {m : zM} {x N : Nat} (hB : zB m) (hN : m 17 1 = (N : Int)) (hx : x ≤ 255)
    (hk : ∀ f : Int, ((f = -1 ∧ ∀ q, q < N → x.testBit q = true) ∨ ∃ g : Nat, f = (g : Int) ∧ g < N ∧ x.testBit g = false) → κ (some (zi f)) m) : T (D + 5) 90 (0, [(0, zr 52), (1, zr 17), (2, zi (x : Int))], [], m) κ := by
  have b64 : 0 ≤ m 17 1 ∧ m 17 1 ≤ 8 := hB 17 1
  have key : ∀ (j t : Nat) (f b : Int), t + j = N → isI b → ((f = -1 ∧ ∀ q, q < t → x.testBit q = true) ∨ ∃ g : Nat, f = (g : Int) ∧ g < N ∧ x.testBit g = false) → T (D + 5) 90 (8, [(0, zr 52), (1, zr 17), (2, zi (x : Int)), (3, zi f), (4, zi b), (5, zi (t : Int))], [], m) κ := by
    intro j
    induction j with
    | zero =>
      intro t f b ht hb hf
      have et : t = N := by omega
      subst et
      have f6 : -1 ≤ f ∧ f ≤ 7 := by
        rcases hf with ⟨h0, _⟩ | ⟨g, h0, h1, _⟩
        · omega
        · omega
      exact zb90_8 hT rfl hB hx f6 hb (by omega) (fun _ => hk f hf) (fun q => by omega) (fun q => by omega)
    | succ j ih =>
      intro t f b ht hb hf
      have f6 : -1 ≤ f ∧ f ≤ 7 := by
        rcases hf with ⟨h0, _⟩ | ⟨g, h0, h1, _⟩
        · omega
        · omega
      refine zb90_8 hT rfl hB hx f6 hb (by omega) (fun q => by omega) (fun _ q => ?_) (fun _ q => ?_)
      · refine ih (t + 1) f b (by omega) hb ?_
        rcases hf with ⟨h0, h1⟩ | h0
        · refine Or.inl ⟨h0, fun r hr => ?_⟩
          by_cases e : r = t
          · rw [e]
            exact bit_yes8 (by omega) (by omega) q
          · exact h1 r (by omega)
        · exact Or.inr h0
      · refine z_costWith0 hT hB hx (by omega) (fun v hv => ?_)
        have nx : ∀ b2 : Int, isI b2 → T (D + 5) 90 (8, [(0, zr 52), (1, zr 17), (2, zi (x : Int)), (3, zi (t : Int)), (4, zi b2), (5, zi ((t : Int) + 1))], [], m) κ := fun b2 hb2 => ih (t + 1) (t : Int) b2 (by omega) hb2 (Or.inr ⟨t, rfl, by omega, bit_no8 (by omega) (by omega) q⟩)
        refine zb90_34 hT rfl hB hx f6 hb (by omega) hv (fun _ => nx v hv) (fun q2 _ => ?_) (fun _ _ => nx v hv)
        refine ih (t + 1) f b (by omega) hb ?_
        rcases hf with ⟨h0, _⟩ | h0
        · exact absurd h0 q2
        · exact Or.inr h0
  exact zb90_0 hT hB hx (key N 0 (-1) 0 (by omega) (by unfold isI; omega) (Or.inl ⟨rfl, fun q hq => by omega⟩))
theorem z_dressCh0 (hT : zRules T) {D : Nat} {κ : Option zA → zM → Prop} {m : zM} {N cnt : Nat} (hB : zB m) (hN : m 17 1 = (N : Int)) (hcnt : m 52 1 = (cnt : Int)) (hle : cnt ≤ N) (hk : ∀ v M, isI v → zB M → zFr (inL [(57, none), (58, none)]) m M → κ (some (zi v)) M) : T (D + 6) 88 (0, [(0, zr 52), (1, zr 17)], [], m) κ := by
  have b64 : 0 ≤ m 17 1 ∧ m 17 1 ≤ 8 := hB 17 1
  have p7 : 2 ^ N ≤ 2 ^ 8 := Nat.pow_le_pow_right (by omega) (by omega)
  have p1 : 1 ≤ 2 ^ N := Nat.one_le_two_pow
  have second : ∀ (j t x : Nat) (M : zM), t + j = cnt → x < 256 → popc8 x = t → zB M → zFr (inL [(57, none), (58, none)]) m M → T (D + 6) 88 (62, [(0, zr 52), (1, zr 17), (3, zi (x : Int)), (4, zi (t : Int))], [], M) κ := by
    intro j
    induction j with
    | zero =>
      intro t x M ht hx hp hBM hF
      have e64 : M 52 1 = (cnt : Int) := (hF 52 1 rfl).trans hcnt
      exact zb88_62 hT rfl hBM (by omega) (by omega) (fun _ => hk _ M (wrB _) hBM hF) (fun q => by omega)
    | succ j ih =>
      intro t x M ht hx hp hBM hF
      have e64 : M 52 1 = (cnt : Int) := (hF 52 1 rfl).trans hcnt
      refine zb88_62 hT rfl hBM (by omega) (by omega) (fun q => by omega) (fun _ => ?_)
      refine z_firstCh0 (D := D) (N := N) hT hBM ((hF 17 1 rfl).trans hN) (by omega) (fun f hf => ?_)
      have hg : ∃ g : Nat, f = (g : Int) ∧ g < N ∧ x.testBit g = false := by
        rcases hf with ⟨_, h1⟩ | h0
        · have := full_p8 N (by omega) x hx h1
          omega
        · exact h0
      obtain ⟨g, rfl, g7, gb⟩ := hg
      refine zb88_93 hT rfl hBM (by omega) (by omega) (by omega) (fun hz => ?_)
      obtain ⟨e1, e2⟩ := orB8 (x := x) (f := g) (by omega) (by omega)
      rw [e1]
      exact ih (t + 1) _ _ (by omega) e2 (by rw [set_p8 g (by omega) x hx gb, hp]) hz (hF.set rfl)
  have first : ∀ (j : Nat) (M : zM), j ≤ 2 ^ N → zB M → zFr (inL [(57, none), (58, none)]) m M → T (D + 6) 88 (11, [(0, zr 52), (1, zr 17), (3, zi ((j : Int) - 1))], [], M) κ := by
    intro j
    induction j with
    | zero =>
      intro M hj hBM hF
      exact zb88_11 hT rfl hBM (by omega) (fun _ => second cnt 0 0 M (by omega) (by omega) (by decide) hBM hF) (fun q => by omega)
    | succ j ih =>
      intro M hj hBM hF
      have hj8 : j < 256 := by omega
      rw [show ((j + 1 : Nat) : Int) - 1 = (j : Int) by omega]
      refine zb88_11 hT rfl hBM (by omega) (fun q => by omega) (fun _ hz => ?_)
      refine z_bitCount (D := D + 4) hT hj8 ?_
      have p8 := popc8_8 j hj8
      have hF1 : zFr (inL [(57, none), (58, none)]) m (zu M 57 ((j : Int).toNat) 0) := hF.set rfl
      generalize zu M 57 ((j : Int).toNat) 0 = M1 at hz hF1 ⊢
      refine zb88_26 hT rfl hz (by omega) (by omega) (fun _ => ih M1 (by omega) hz hF1) (fun _ => ?_)
      refine z_firstCh0 (D := D) (N := N) hT hz ((hF1 17 1 rfl).trans hN) (by omega) (fun f hf => ?_)
      have f6 : -1 ≤ f ∧ f ≤ 7 := by
        rcases hf with ⟨h0, _⟩ | ⟨g, h0, h1, _⟩
        · omega
        · omega
      refine zb88_47 hT rfl hz (by omega) f6 ?_
      refine z_costWith0 (D := D + 1) hT hz (by omega) f6 (fun v hv => ?_)
      refine zb88_50 hT rfl hz (by omega) hv (fun hz2 => ?_)
      exact ih _ (by omega) hz2 (hF1.set rfl)
  refine zb88_0 hT hB ?_
  rw [hN, z_shl1T N (by omega)]
  exact first (2 ^ N) m (Nat.le_refl _) hB zFr.refl
theorem z_costR94 (hT : zRules T) {D : Nat} {κ : Option zA → zM → Prop} {m M : zM} {sc : zSc} {n k c p : Nat} (hI : Inv B sc n k m) (hBM : zB M) (hA : Agree coreK m M) (hc : c < k) (hp : p < n)
    (hk : ∀ v M1, (0 ≤ v ∧ v ≤ 1000) → zB M1 → Agree coreK m M1 → (∀ j, M1 94 j = M 94 j) → κ (some (zi v)) M1) : T (D + 172) 261 (0, [(0, zr 74), (1, zi (c : Int)), (2, zi (p : Int))], [], M) κ := by
  have i1 := hI.1
  have h4 := hI.2.2.2.1
  have b17 : 0 ≤ m 17 0 ∧ m 17 0 ≤ 6 := i1 17 0
  have b171 : 0 ≤ m 17 1 ∧ m 17 1 ≤ 8 := i1 17 1
  have n1 := h4.1.1
  have k1 := h4.2.1.1
  have bpl := (h4.2.2.2.2.1 p hp).1
  obtain ⟨pl, hpl⟩ : ∃ pl : Nat, m 75 p = (pl : Int) := ⟨(m 75 p).toNat, by omega⟩
  refine zb261_0 (D := D + 168) hT hBM (by omega) (by omega) ?_
  refine z_lay_75_91 (k := 0) (D := D + 170) hT (by omega) ?_
  have hA2 : Agree coreK m (z_cp M 75 91 0 0 59) := hA.trans (.of (L := [(91, none)]) (zFr.refl.cp (fun _ => rfl)) rfl)
  have hB2 : zB (z_cp M 75 91 0 0 59) := zB_cpB hBM rfl
  have x91 : ∀ j, j < 59 → (z_cp M 75 91 0 0 59) 91 j = m 75 j := fun j hj => by
    rw [z_cp_in (by omega), show 0 + (j - 0) = j by omega]
    exact hA 75 j rfl
  refine zb261_12 (D := D + 168) hT rfl hB2 (by omega) (by omega) (fun hz => ?_)
  have hA3 : Agree coreK m (zu (zu (zu (z_cp M 75 91 0 0 59) 74 31 0) 74 32 0) 74 33 0) := hA2.trans (.of (L := [(74, some 31), (74, some 32), (74, some 33)]) (((zFr.refl.set rfl).set rfl).set rfl) rfl)
  have y91 : ∀ j, j < 59 → (zu (zu (zu (z_cp M 75 91 0 0 59) 74 31 0) 74 32 0) 74 33 0) 91 j = m 75 j := fun j hj => by
    rw [zu_dn (by omega), zu_dn (by omega), zu_dn (by omega), x91 j hj]
  have z94 : ∀ j, (zu (zu (zu (z_cp M 75 91 0 0 59) 74 31 0) 74 32 0) 74 33 0) 94 j = M 94 j := fun j => by
    rw [zu_dn (by omega), zu_dn (by omega), zu_dn (by omega), z_cp_dn (by omega)]
  have hR : RelR 91 (zu (zu (zu (z_cp M 75 91 0 0 59) 74 31 0) 74 32 0) 74 33 0) ((zu (zu (zu (z_cp M 75 91 0 0 59) 74 31 0) 74 32 0) 74 33 0) 91, 0, 0, 0) :=
    ⟨rfl, by simp (disch := omega) only [zu_off, zu_sm], by simp (disch := omega) only [zu_off, zu_sm], by simp (disch := omega) only [zu_sm]⟩
  generalize (zu (zu (zu (z_cp M 75 91 0 0 59) 74 31 0) 74 32 0) 74 33 0) = M3 at hz hA3 y91 z94 hR ⊢
  refine z_lawInF (d := 0) (pl := pl) hT hI hz (hA3.sub (fun q hq => List.mem_append.mpr (Or.inr (List.mem_append.mpr (Or.inl hq))))) (funext fun j => hA3 78 j rfl) (hA3 75 57 rfl) hp ((hA3 75 p rfl).trans hpl) (by omega) (fun M4 hB4 hF4 => ?_)
  refine zb261_28 (D := D + 168) hT rfl hB4 (by omega) laFB ?_
  have hA4 : Agree coreK m M4 := hA3.trans (.of hF4 rfl)
  have hR4 : RelR 91 M4 (M3 91, 0, 0, 0) := ⟨funext fun j => hF4 91 j rfl, (hF4 74 31 rfl).trans hR.2.1, (hF4 74 32 rfl).trans hR.2.2.1, (hF4 74 33 rfl).trans hR.2.2.2⟩
  refine z_makes_91 (D := D + 169) hT hB4 (by omega) laFB hR4 (fun M5 hB5 hF5 hR5 => ?_)
  have b12 : -1 ≤ m 75 (c + 12) ∧ m 75 (c + 12) ≤ 99 := zSg i1 75 12 20 (-1) 99 rfl (c + 12) (by omega) (by omega)
  have b20 : -1 ≤ m 75 (c + 20) ∧ m 75 (c + 20) ≤ 9 := zSg i1 75 20 28 (-1) 9 rfl (c + 20) (by omega) (by omega)
  have hc2 := mkA_cost (h := M4 79 0) (v := laF m p pl 0) (g := M3 91) (c := c) (by rw [y91 (c + 12) (by omega)]; omega) (by rw [y91 (c + 20) (by omega)]; omega) laFB
  refine zb261_31 (D := D + 168) hT rfl hB5 ?_
  have hA5 : Agree coreK m M5 := hA4.trans (.of (hF5.sub mkL91) rfl)
  have p1 : 0 ≤ M5 79 1 ∧ M5 79 1 ≤ 9 := hB5 79 1
  have p2 : 0 ≤ M5 79 2 ∧ M5 79 2 ≤ 9 := hB5 79 2
  rw [Int.mul_comm (M5 79 1), Int.mul_comm (M5 79 2), hR5.2.1, hR5.2.2.1]
  exact hk _ M5 (cost_wr hc2.1 hc2.2 p1 p2) hB5 hA5 (fun j => by rw [(hF5.sub mkL91) 94 j rfl, hF4 94 j rfl, z94 j])
noncomputable def gdL : zLs := [(74, some 47), (95, none), (96, none)]
theorem z_goDress0 (hT : zRules T) {N K x : Nat} (hN6 : N ≤ 6) (hK8 : K ≤ 8) (hx : x ≤ 63) : ∀ (j : Nat) (D : Nat) (κ : Option zA → zM → Prop) (m : zM) (k u : Nat) (t : Int), zB m → m 74 4 = (N : Int) → m 74 6 = (K : Int) → (∀ p c, p < N → c < K → 0 ≤ m 94 (8 * p + c) ∧ m 94 (8 * p + c) ≤ 1000) → k + j = N → u < 256 → (0 ≤ t ∧ t ≤ 1000 * k) → (∀ M, zB M → zFr (inL gdL) m M → κ none M) →
    T (D + j + 1) 263 (0, [(0, zr 74), (1, zi (k : Int)), (2, zi (x : Int)), (3, zi (u : Int)), (4, zi t)], [], m) κ := by
  intro j
  induction j with
  | zero =>
    intro D κ m k u t hB hN hK h94 hkj hu ht hk
    refine zb263_0 (D := D) hT hB (by omega) hx (by omega) (by omega) (fun _ q => by omega) (fun _ q => by omega) (fun _ _ hz => ?_) (fun _ => hk m hB zFr.refl)
    have key : ∀ (i c : Nat) (M : zM), c + i = N → zB M → zFr (inL gdL) m M → T (D + 1) 263 (27, [(0, zr 74), (5, zi (c : Int))], [], M) κ := by
      intro i
      induction i with
      | zero =>
        intro c M hc hBM hF
        have e54 : M 74 4 = (N : Int) := (hF 74 4 rfl).trans hN
        exact zb263_27 (D := D) hT rfl hBM (by omega) (fun _ => hk M hBM hF) (fun q => by omega)
      | succ i ih =>
        intro c M hc hBM hF
        have e54 : M 74 4 = (N : Int) := (hF 74 4 rfl).trans hN
        exact zb263_27 (D := D) hT rfl hBM (by omega) (fun q => by omega) (fun _ hz2 => ih (c + 1) _ (by omega) hz2 (hF.set rfl))
    exact key N 0 _ (by omega) hz (zFr.refl.set rfl)
  | succ j ih =>
    intro D κ m k u t hB hN hK h94 hkj hu ht hk
    have loop : ∀ (i c : Nat) (M : zM), c + i = K → zB M → zFr (inL gdL) m M → T (D + (j + 1) + 1) 263 (80, [(0, zr 74), (1, zi (k : Int)), (2, zi (x : Int)), (3, zi (u : Int)), (4, zi t), (5, zi (c : Int))], [], M) κ := by
      intro i
      induction i with
      | zero =>
        intro c M hc hBM hF
        have e6 : M 74 6 = (K : Int) := (hF 74 6 rfl).trans hK
        exact zb263_80 (D := D + j + 1) hT rfl hBM (by omega) hx (by omega) (by omega) (by omega) (fun _ => hk M hBM hF) (fun q => by omega) (fun q => by omega)
      | succ i ih2 =>
        intro c M hc hBM hF
        have e6 : M 74 6 = (K : Int) := (hF 74 6 rfl).trans hK
        have h9 : 0 ≤ M 94 (8 * k + c) ∧ M 94 (8 * k + c) ≤ 1000 := by
          rw [hF 94 (8 * k + c) rfl]
          exact h94 k c (by omega) (by omega)
        refine zb263_80 (D := D + j + 1) hT rfl hBM (by omega) hx (by omega) (by omega) (by omega) (fun q => by omega) (fun _ _ hz => ?_) (fun _ _ => ih2 (c + 1) M (by omega) hBM hF)
        obtain ⟨e1, e2⟩ := orB8 (x := u) (f := c) hu (by omega)
        rw [e1]
        have hF1 : zFr (inL gdL) m (zu M 95 k (c : Int)) := hF.set rfl
        refine ih D _ _ (k + 1) (u ||| 2 ^ c) _ hz ((hF1 74 4 rfl).trans hN) ((hF1 74 6 rfl).trans hK) (fun p c hp hc => by rw [hF1 94 (8 * p + c) rfl]; exact h94 p c hp hc) (by omega) e2 (by omega) (fun M2 hB2 hF2 => ?_)
        exact zb263_138 (D := D + j + 1) hT rfl hB2 (by omega) hx (by omega) (by omega) (by omega) (ih2 (c + 1) M2 (by omega) hB2 (hF1.trans hF2))
    refine zb263_0 (D := D + j + 1) hT hB (by omega) hx (by omega) (by omega) (fun _ _ _ => ?_) (fun _ _ _ => loop K 0 m (by omega) hB zFr.refl) (fun _ q => by omega) (fun _ => hk m hB zFr.refl)
    exact ih D _ m (k + 1) u t hB hN hK h94 (by omega) hu (by omega) (fun M hBM hF => zb263_76 (D := D + j + 1) hT rfl (hk M hBM hF))
end ZDress
