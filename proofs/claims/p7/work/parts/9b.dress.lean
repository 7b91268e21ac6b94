/-! dress(): it ends, and leaves what matters. -/
noncomputable def popc8 (x : Nat) : Nat := (List.range 8).countP (fun i => x.testBit i)
theorem bc_eq : ∀ x : Nat, x < 256 → (z_and (((z_and (((z_and ((x : Int) - (z_and (z_ush (x : Int) 1) 1431655765)) 858993459) + (z_and (z_ush ((x : Int) - (z_and (z_ush (x : Int) 1) 1431655765)) 2) 858993459)) + (z_ush ((z_and ((x : Int) - (z_and (z_ush (x : Int) 1) 1431655765)) 858993459) + (z_and (z_ush ((x : Int) - (z_and (z_ush (x : Int) 1) 1431655765)) 2) 858993459)) 4)) 252645135) + (z_ush (z_and (((z_and ((x : Int) - (z_and (z_ush (x : Int) 1) 1431655765)) 858993459) + (z_and (z_ush ((x : Int) - (z_and (z_ush (x : Int) 1) 1431655765)) 2) 858993459)) + (z_ush ((z_and ((x : Int) - (z_and (z_ush (x : Int) 1) 1431655765)) 858993459) + (z_and (z_ush ((x : Int) - (z_and (z_ush (x : Int) 1) 1431655765)) 2) 858993459)) 4)) 252645135) 8)) + (z_ush ((z_and (((z_and ((x : Int) - (z_and (z_ush (x : Int) 1) 1431655765)) 858993459) + (z_and (z_ush ((x : Int) - (z_and (z_ush (x : Int) 1) 1431655765)) 2) 858993459)) + (z_ush ((z_and ((x : Int) - (z_and (z_ush (x : Int) 1) 1431655765)) 858993459) + (z_and (z_ush ((x : Int) - (z_and (z_ush (x : Int) 1) 1431655765)) 2) 858993459)) 4)) 252645135) + (z_ush (z_and (((z_and ((x : Int) - (z_and (z_ush (x : Int) 1) 1431655765)) 858993459) + (z_and (z_ush ((x : Int) - (z_and (z_ush (x : Int) 1) 1431655765)) 2) 858993459)) + (z_ush ((z_and ((x : Int) - (z_and (z_ush (x : Int) 1) 1431655765)) 858993459) + (z_and (z_ush ((x : Int) - (z_and (z_ush (x : Int) 1) 1431655765)) 2) 858993459)) 4)) 252645135) 8)) 16)) 63) = ((popc8 x : Nat) : Int) := by decide +kernel
theorem popc8_8 : ∀ x : Nat, x < 256 → popc8 x ≤ 8 := by decide +kernel
noncomputable def pcn (x : Nat) : Nat → Nat
  | 0 => 0
  | i + 1 => pcn x i + (if x.testBit i then 1 else 0)
theorem pcn_le : ∀ x : Nat, x < 64 → ∀ i : Nat, i < 7 → pcn x i ≤ popc8 x := by decide +kernel
theorem set_p8 : ∀ f : Nat, f < 8 → ∀ x : Nat, x < 256 → x.testBit f = false → popc8 (x ||| 2 ^ f) = popc8 x + 1 := by decide +kernel
theorem full_p8 : ∀ N : Nat, N < 9 → ∀ x : Nat, x < 256 → (∀ q, q < N → x.testBit q = true) → N ≤ popc8 x := by decide +kernel
theorem bit_no8 {x t : Nat} (hx : x < 256) (ht : t ≤ 8) (q : z_and (z_shr (x : Int) (t : Int)) 1 = 0) : x.testBit t = false := by
  rw [z_bit (by omega) (by omega)] at q
  cases hb : x.testBit t with
  | false => rfl
  | true =>
    rw [hb, if_pos rfl] at q
    cases q
theorem bit_yes8 {x t : Nat} (hx : x < 256) (ht : t ≤ 8) (q : ¬ z_and (z_shr (x : Int) (t : Int)) 1 = 0) : x.testBit t = true := by
  rw [z_bit (by omega) (by omega)] at q
  cases hb : x.testBit t with
  | true => rfl
  | false =>
    rw [hb, if_neg (by simp)] at q
    exact absurd rfl q
theorem orB8 {x f : Nat} (hx : x < 256) (hf : f < 8) : z_or (x : Int) (z_shl 1 (f : Int)) = ((x ||| 2 ^ f : Nat) : Int) ∧ x ||| 2 ^ f < 256 := by
  have p : 2 ^ f ≤ 2 ^ 7 := Nat.pow_le_pow_right (by omega) (by omega)
  refine ⟨?_, Nat.or_lt_two_pow (n := 8) hx (by omega)⟩
  rw [z_shl1T f (by omega), z_orN (by omega) (by omega)]
section ZDress
variable {T : Nat → Nat → zG → (Option zA → zM → Prop) → Prop} {B : Int}
theorem z_bitCount (hT : zRules T) {D : Nat} {κ : Option zA → zM → Prop} {m : zM} {x : Nat} (hx : x < 256) (h : κ (some (zi ((popc8 x : Nat) : Int))) m) : T (D + 1) 293 (0, [(0, zi (x : Int))], [], m) κ := by
  refine zb293_0 hT (by omega) ?_
  rw [bc_eq x hx]
  exact h
theorem z_costWith0 (hT : zRules T) {D : Nat} {κ : Option zA → zM → Prop} {m : zM} {x : Nat} {f : Int} (hB : zB m) (hx : x ≤ 255) (hf : -1 ≤ f ∧ f ≤ 7) (hk : ∀ v : Int, isI v → κ (some (zi v)) m) : T (D + 4) 89 (0, [(0, zr 52), (1, zr 17), (2, zi (x : Int)), (3, zi f)], [], m) κ := by
  have p8 := popc8_8 x (by omega)
  refine zb89_0 hT hB hx hf ?_
  refine z_bitCount (D := D + 2) hT (by omega) ?_
  refine zb89_4 hT rfl hB hx hf (by omega) (fun _ => hk 0 (by unfold isI; omega)) (fun _ _ => hk 0 (by unfold isI; omega)) (fun q _ _ => ?_) (fun _ _ _ => hk 0 (by unfold isI; omega))
  obtain ⟨g, rfl⟩ : ∃ g : Nat, f = (g : Int) := ⟨f.toNat, by omega⟩
  have b53 : 0 ≤ m 53 (((popc8 x : Nat) : Int).toNat) ∧ m 53 (((popc8 x : Nat) : Int).toNat) ≤ 99 := hB 53 _
  refine z_costC (D := D) hT hB (by omega) b53 (fun v hv => ?_)
  obtain ⟨e1, e2⟩ := orB8 (x := x) (f := g) (by omega) (by omega)
  exact zb89_37 hT rfl hB hx (by omega) hv (by rw [e1]; omega) (hk _ (wrB _))
theorem z_firstCh0 (hT : zRules T) {D : Nat} {κ : Option zA → zM → Prop} {m : zM} {x N : Nat} (hB : zB m) (hN : m 17 1 = (N : Int)) (hx : x ≤ 255)
    (hk : ∀ f : Int, ((f = -1 ∧ ∀ q, q < N → x.testBit q = true) ∨ ∃ g : Nat, f = (g : Int) ∧ g < N ∧ x.testBit g = false) → κ (some (zi f)) m) : T (D + 5) 90 (0, [(0, zr 52), (1, zr 17), (2, zi (x : Int))], [], m) κ := by
  have b64 : 0 ≤ m 17 1 ∧ m 17 1 ≤ 8 := hB 17 1
  have key : ∀ (j t : Nat) (f b : Int), t + j = N → isI b → ((f = -1 ∧ ∀ q, q < t → x.testBit q = true) ∨ ∃ g : Nat, f = (g : Int) ∧ g < N ∧ x.testBit g = false) → T (D + 5) 90 (8, [(0, zr 52), (1, zr 17), (2, zi (x : Int)), (3, zi f), (4, zi b), (5, zi (t : Int))], [], m) κ := by
    intro j
    induction j with
    | zero =>
      intro t f b ht hb hf
      have et : t = N := by omega
      subst et
      have f6 : -1 ≤ f ∧ f ≤ 7 := by
        rcases hf with ⟨h0, _⟩ | ⟨g, h0, h1, _⟩
        · omega
        · omega
      exact zb90_8 hT rfl hB hx f6 hb (by omega) (fun _ => hk f hf) (fun q => by omega) (fun q => by omega)
    | succ j ih =>
      intro t f b ht hb hf
      have f6 : -1 ≤ f ∧ f ≤ 7 := by
        rcases hf with ⟨h0, _⟩ | ⟨g, h0, h1, _⟩
        · omega
        · omega
      refine zb90_8 hT rfl hB hx f6 hb (by omega) (fun q => by omega) (fun _ q => ?_) (fun _ q => ?_)
      · refine ih (t + 1) f b (by omega) hb ?_
        rcases hf with ⟨h0, h1⟩ | h0
        · refine Or.inl ⟨h0, fun r hr => ?_⟩
          by_cases e : r = t
          · rw [e]
            exact bit_yes8 (by omega) (by omega) q
          · exact h1 r (by omega)
        · exact Or.inr h0
      · refine z_costWith0 hT hB hx (by omega) (fun v hv => ?_)
        have nx : ∀ b2 : Int, isI b2 → T (D + 5) 90 (8, [(0, zr 52), (1, zr 17), (2, zi (x : Int)), (3, zi (t : Int)), (4, zi b2), (5, zi ((t : Int) + 1))], [], m) κ := fun b2 hb2 => ih (t + 1) (t : Int) b2 (by omega) hb2 (Or.inr ⟨t, rfl, by omega, bit_no8 (by omega) (by omega) q⟩)
        refine zb90_34 hT rfl hB hx f6 hb (by omega) hv (fun _ => nx v hv) (fun q2 _ => ?_) (fun _ _ => nx v hv)
        refine ih (t + 1) f b (by omega) hb ?_
        rcases hf with ⟨h0, _⟩ | h0
        · exact absurd h0 q2
        · exact Or.inr h0
  exact zb90_0 hT hB hx (key N 0 (-1) 0 (by omega) (by unfold isI; omega) (Or.inl ⟨rfl, fun q hq => by omega⟩))
theorem z_dressCh0 (hT : zRules T) {D : Nat} {κ : Option zA → zM → Prop} {m : zM} {N cnt : Nat} (hB : zB m) (hN : m 17 1 = (N : Int)) (hcnt : m 52 1 = (cnt : Int)) (hle : cnt ≤ N) (hk : ∀ v M, isI v → zB M → zFr (inL [(57, none), (58, none)]) m M → κ (some (zi v)) M) : T (D + 6) 88 (0, [(0, zr 52), (1, zr 17)], [], m) κ := by
  have b64 : 0 ≤ m 17 1 ∧ m 17 1 ≤ 8 := hB 17 1
  have p7 : 2 ^ N ≤ 2 ^ 8 := Nat.pow_le_pow_right (by omega) (by omega)
  have p1 : 1 ≤ 2 ^ N := Nat.one_le_two_pow
  have second : ∀ (j t x : Nat) (M : zM), t + j = cnt → x < 256 → popc8 x = t → zB M → zFr (inL [(57, none), (58, none)]) m M → T (D + 6) 88 (62, [(0, zr 52), (1, zr 17), (3, zi (x : Int)), (4, zi (t : Int))], [], M) κ := by
    intro j
    induction j with
    | zero =>
      intro t x M ht hx hp hBM hF
      have e64 : M 52 1 = (cnt : Int) := (hF 52 1 rfl).trans hcnt
      exact zb88_62 hT rfl hBM (by omega) (by omega) (fun _ => hk _ M (wrB _) hBM hF) (fun q => by omega)
    | succ j ih =>
      intro t x M ht hx hp hBM hF
      have e64 : M 52 1 = (cnt : Int) := (hF 52 1 rfl).trans hcnt
      refine zb88_62 hT rfl hBM (by omega) (by omega) (fun q => by omega) (fun _ => ?_)
      refine z_firstCh0 (D := D) (N := N) hT hBM ((hF 17 1 rfl).trans hN) (by omega) (fun f hf => ?_)
      have hg : ∃ g : Nat, f = (g : Int) ∧ g < N ∧ x.testBit g = false := by
        rcases hf with ⟨_, h1⟩ | h0
        · have := full_p8 N (by omega) x hx h1
          omega
        · exact h0
      obtain ⟨g, rfl, g7, gb⟩ := hg
      refine zb88_93 hT rfl hBM (by omega) (by omega) (by omega) (fun hz => ?_)
      obtain ⟨e1, e2⟩ := orB8 (x := x) (f := g) (by omega) (by omega)
      rw [e1]
      exact ih (t + 1) _ _ (by omega) e2 (by rw [set_p8 g (by omega) x hx gb, hp]) hz (hF.set rfl)
  have first : ∀ (j : Nat) (M : zM), j ≤ 2 ^ N → zB M → zFr (inL [(57, none), (58, none)]) m M → T (D + 6) 88 (11, [(0, zr 52), (1, zr 17), (3, zi ((j : Int) - 1))], [], M) κ := by
    intro j
    induction j with
    | zero =>
      intro M hj hBM hF
      exact zb88_11 hT rfl hBM (by omega) (fun _ => second cnt 0 0 M (by omega) (by omega) (by decide) hBM hF) (fun q => by omega)
    | succ j ih =>
      intro M hj hBM hF
      have hj8 : j < 256 := by omega
      rw [show ((j + 1 : Nat) : Int) - 1 = (j : Int) by omega]
      refine zb88_11 hT rfl hBM (by omega) (fun q => by omega) (fun _ hz => ?_)
      refine z_bitCount (D := D + 4) hT hj8 ?_
      have p8 := popc8_8 j hj8
      have hF1 : zFr (inL [(57, none), (58, none)]) m (zu M 57 ((j : Int).toNat) 0) := hF.set rfl
      generalize zu M 57 ((j : Int).toNat) 0 = M1 at hz hF1 ⊢
      refine zb88_26 hT rfl hz (by omega) (by omega) (fun _ => ih M1 (by omega) hz hF1) (fun _ => ?_)
      refine z_firstCh0 (D := D) (N := N) hT hz ((hF1 17 1 rfl).trans hN) (by omega) (fun f hf => ?_)
      have f6 : -1 ≤ f ∧ f ≤ 7 := by
        rcases hf with ⟨h0, _⟩ | ⟨g, h0, h1, _⟩
        · omega
        · omega
      refine zb88_47 hT rfl hz (by omega) f6 ?_
      refine z_costWith0 (D := D + 1) hT hz (by omega) f6 (fun v hv => ?_)
      refine zb88_50 hT rfl hz (by omega) hv (fun hz2 => ?_)
      exact ih _ (by omega) hz2 (hF1.set rfl)
  refine zb88_0 hT hB ?_
  rw [hN, z_shl1T N (by omega)]
  exact first (2 ^ N) m (Nat.le_refl _) hB zFr.refl
theorem z_costR94 (hT : zRules T) {D : Nat} {κ : Option zA → zM → Prop} {m M : zM} {sc : zSc} {n k c p : Nat} (hI : Inv B sc n k m) (hBM : zB M) (hA : Agree coreK m M) (hc : c < k) (hp : p < n)
    (hk : ∀ v M1, (0 ≤ v ∧ v ≤ 1000) → zB M1 → Agree coreK m M1 → (∀ j, M1 94 j = M 94 j) → κ (some (zi v)) M1) : T (D + 172) 261 (0, [(0, zr 74), (1, zi (c : Int)), (2, zi (p : Int))], [], M) κ := by
  have i1 := hI.1
  have h4 := hI.2.2.2.1
  have b17 : 0 ≤ m 17 0 ∧ m 17 0 ≤ 6 := i1 17 0
  have b171 : 0 ≤ m 17 1 ∧ m 17 1 ≤ 8 := i1 17 1
  have n1 := h4.1.1
  have k1 := h4.2.1.1
  have bpl := (h4.2.2.2.2.1 p hp).1
  obtain ⟨pl, hpl⟩ : ∃ pl : Nat, m 75 p = (pl : Int) := ⟨(m 75 p).toNat, by omega⟩
  refine zb261_0 (D := D + 168) hT hBM (by omega) (by omega) ?_
  refine z_lay_75_91 (k := 0) (D := D + 170) hT (by omega) ?_
  have hA2 : Agree coreK m (z_cp M 75 91 0 0 59) := hA.trans (.of (L := [(91, none)]) (zFr.refl.cp (fun _ => rfl)) rfl)
  have hB2 : zB (z_cp M 75 91 0 0 59) := zB_cpB hBM rfl
  have x91 : ∀ j, j < 59 → (z_cp M 75 91 0 0 59) 91 j = m 75 j := fun j hj => by
    rw [z_cp_in (by omega), show 0 + (j - 0) = j by omega]
    exact hA 75 j rfl
  refine zb261_12 (D := D + 168) hT rfl hB2 (by omega) (by omega) (fun hz => ?_)
  have hA3 : Agree coreK m (zu (zu (zu (z_cp M 75 91 0 0 59) 74 31 0) 74 32 0) 74 33 0) := hA2.trans (.of (L := [(74, some 31), (74, some 32), (74, some 33)]) (((zFr.refl.set rfl).set rfl).set rfl) rfl)
  have y91 : ∀ j, j < 59 → (zu (zu (zu (z_cp M 75 91 0 0 59) 74 31 0) 74 32 0) 74 33 0) 91 j = m 75 j := fun j hj => by
    rw [zu_dn (by omega), zu_dn (by omega), zu_dn (by omega), x91 j hj]
  have z94 : ∀ j, (zu (zu (zu (z_cp M 75 91 0 0 59) 74 31 0) 74 32 0) 74 33 0) 94 j = M 94 j := fun j => by
    rw [zu_dn (by omega), zu_dn (by omega), zu_dn (by omega), z_cp_dn (by omega)]
  have hR : RelR 91 (zu (zu (zu (z_cp M 75 91 0 0 59) 74 31 0) 74 32 0) 74 33 0) ((zu (zu (zu (z_cp M 75 91 0 0 59) 74 31 0) 74 32 0) 74 33 0) 91, 0, 0, 0) :=
    ⟨rfl, by simp (disch := omega) only [zu_off, zu_sm], by simp (disch := omega) only [zu_off, zu_sm], by simp (disch := omega) only [zu_sm]⟩
  generalize (zu (zu (zu (z_cp M 75 91 0 0 59) 74 31 0) 74 32 0) 74 33 0) = M3 at hz hA3 y91 z94 hR ⊢
  refine z_lawInF (d := 0) (pl := pl) hT hI hz (hA3.sub (fun q hq => List.mem_append.mpr (Or.inr (List.mem_append.mpr (Or.inl hq))))) (funext fun j => hA3 78 j rfl) (hA3 75 57 rfl) hp ((hA3 75 p rfl).trans hpl) (by omega) (fun M4 hB4 hF4 => ?_)
  refine zb261_28 (D := D + 168) hT rfl hB4 (by omega) laFB ?_
  have hA4 : Agree coreK m M4 := hA3.trans (.of hF4 rfl)
  have hR4 : RelR 91 M4 (M3 91, 0, 0, 0) := ⟨funext fun j => hF4 91 j rfl, (hF4 74 31 rfl).trans hR.2.1, (hF4 74 32 rfl).trans hR.2.2.1, (hF4 74 33 rfl).trans hR.2.2.2⟩
  refine z_makes_91 (D := D + 169) hT hB4 (by omega) laFB hR4 (fun M5 hB5 hF5 hR5 => ?_)
  have b12 : -1 ≤ m 75 (c + 12) ∧ m 75 (c + 12) ≤ 99 := zSg i1 75 12 20 (-1) 99 rfl (c + 12) (by omega) (by omega)
  have b20 : -1 ≤ m 75 (c + 20) ∧ m 75 (c + 20) ≤ 9 := zSg i1 75 20 28 (-1) 9 rfl (c + 20) (by omega) (by omega)
  have hc2 := mkA_cost (h := M4 79 0) (v := laF m p pl 0) (g := M3 91) (c := c) (by rw [y91 (c + 12) (by omega)]; omega) (by rw [y91 (c + 20) (by omega)]; omega) laFB
  refine zb261_31 (D := D + 168) hT rfl hB5 ?_
  have hA5 : Agree coreK m M5 := hA4.trans (.of (hF5.sub mkL91) rfl)
  have p1 : 0 ≤ M5 79 1 ∧ M5 79 1 ≤ 9 := hB5 79 1
  have p2 : 0 ≤ M5 79 2 ∧ M5 79 2 ≤ 9 := hB5 79 2
  rw [Int.mul_comm (M5 79 1), Int.mul_comm (M5 79 2), hR5.2.1, hR5.2.2.1]
  exact hk _ M5 (cost_wr hc2.1 hc2.2 p1 p2) hB5 hA5 (fun j => by rw [(hF5.sub mkL91) 94 j rfl, hF4 94 j rfl, z94 j])
noncomputable def gdL : zLs := [(74, some 47), (95, none), (96, none)]
theorem z_goDress0 (hT : zRules T) {N K x : Nat} (hN6 : N ≤ 6) (hK8 : K ≤ 8) (hx : x ≤ 63) : ∀ (j : Nat) (D : Nat) (κ : Option zA → zM → Prop) (m : zM) (k u : Nat) (t : Int), zB m → m 74 4 = (N : Int) → m 74 6 = (K : Int) → (∀ p c, p < N → c < K → 0 ≤ m 94 (8 * p + c) ∧ m 94 (8 * p + c) ≤ 1000) → k + j = N → u < 256 → (0 ≤ t ∧ t ≤ 1000 * k) → (∀ M, zB M → zFr (inL gdL) m M → κ none M) →
    T (D + j + 1) 263 (0, [(0, zr 74), (1, zi (k : Int)), (2, zi (x : Int)), (3, zi (u : Int)), (4, zi t)], [], m) κ := by
  intro j
  induction j with
  | zero =>
    intro D κ m k u t hB hN hK h94 hkj hu ht hk
    refine zb263_0 (D := D) hT hB (by omega) hx (by omega) (by omega) (fun _ q => by omega) (fun _ q => by omega) (fun _ _ hz => ?_) (fun _ => hk m hB zFr.refl)
    have key : ∀ (i c : Nat) (M : zM), c + i = N → zB M → zFr (inL gdL) m M → T (D + 1) 263 (27, [(0, zr 74), (5, zi (c : Int))], [], M) κ := by
      intro i
      induction i with
      | zero =>
        intro c M hc hBM hF
        have e54 : M 74 4 = (N : Int) := (hF 74 4 rfl).trans hN
        exact zb263_27 (D := D) hT rfl hBM (by omega) (fun _ => hk M hBM hF) (fun q => by omega)
      | succ i ih =>
        intro c M hc hBM hF
        have e54 : M 74 4 = (N : Int) := (hF 74 4 rfl).trans hN
        exact zb263_27 (D := D) hT rfl hBM (by omega) (fun q => by omega) (fun _ hz2 => ih (c + 1) _ (by omega) hz2 (hF.set rfl))
    exact key N 0 _ (by omega) hz (zFr.refl.set rfl)
  | succ j ih =>
    intro D κ m k u t hB hN hK h94 hkj hu ht hk
    have loop : ∀ (i c : Nat) (M : zM), c + i = K → zB M → zFr (inL gdL) m M → T (D + (j + 1) + 1) 263 (80, [(0, zr 74), (1, zi (k : Int)), (2, zi (x : Int)), (3, zi (u : Int)), (4, zi t), (5, zi (c : Int))], [], M) κ := by
      intro i
      induction i with
      | zero =>
        intro c M hc hBM hF
        have e6 : M 74 6 = (K : Int) := (hF 74 6 rfl).trans hK
        exact zb263_80 (D := D + j + 1) hT rfl hBM (by omega) hx (by omega) (by omega) (by omega) (fun _ => hk M hBM hF) (fun q => by omega) (fun q => by omega)
      | succ i ih2 =>
        intro c M hc hBM hF
        have e6 : M 74 6 = (K : Int) := (hF 74 6 rfl).trans hK
        have h9 : 0 ≤ M 94 (8 * k + c) ∧ M 94 (8 * k + c) ≤ 1000 := by
          rw [hF 94 (8 * k + c) rfl]
          exact h94 k c (by omega) (by omega)
        refine zb263_80 (D := D + j + 1) hT rfl hBM (by omega) hx (by omega) (by omega) (by omega) (fun q => by omega) (fun _ _ hz => ?_) (fun _ _ => ih2 (c + 1) M (by omega) hBM hF)
        obtain ⟨e1, e2⟩ := orB8 (x := u) (f := c) hu (by omega)
        rw [e1]
        have hF1 : zFr (inL gdL) m (zu M 95 k (c : Int)) := hF.set rfl
        refine ih D _ _ (k + 1) (u ||| 2 ^ c) _ hz ((hF1 74 4 rfl).trans hN) ((hF1 74 6 rfl).trans hK) (fun p c hp hc => by rw [hF1 94 (8 * p + c) rfl]; exact h94 p c hp hc) (by omega) e2 (by omega) (fun M2 hB2 hF2 => ?_)
        exact zb263_138 (D := D + j + 1) hT rfl hB2 (by omega) hx (by omega) (by omega) (by omega) (ih2 (c + 1) M2 (by omega) hB2 (hF1.trans hF2))
    refine zb263_0 (D := D + j + 1) hT hB (by omega) hx (by omega) (by omega) (fun _ _ _ => ?_) (fun _ _ _ => loop K 0 m (by omega) hB zFr.refl) (fun _ q => by omega) (fun _ => hk m hB zFr.refl)
    exact ih D _ m (k + 1) u t hB hN hK h94 (by omega) hu (by omega) (fun M hBM hF => zb263_76 (D := D + j + 1) hT rfl (hk M hBM hF))
theorem w_dress0 (hT : zRules T) {v : Int} (hv : isI v) : Way T 144 264 [(0, zr 1), (1, zi v)] [(0, zr 74), (1, zi v)] 7 173 B B False := by
  rintro D m sc ⟨n, k, hI⟩ κ hκ
  have hI0 := hI
  obtain ⟨i1, i2, i3, i4, i5, i6, i7, i8, i9, i10, i11⟩ := hI
  obtain ⟨⟨n1, n2⟩, ⟨k1, k2⟩, hh, hRel, hok⟩ := i4
  have b17 : 0 ≤ m 17 0 ∧ m 17 0 ≤ 6 := i1 17 0
  have b171 : 0 ≤ m 17 1 ∧ m 17 1 ≤ 8 := i1 17 1
  have p6 : 2 ^ n ≤ 2 ^ 6 := Nat.pow_le_pow_right (by omega) (by omega)
  have p1 : 1 ≤ 2 ^ n := Nat.one_le_two_pow
  have ref : ∀ (r : Option zA) (M0 : zM), zB M0 → Agree coreK m M0 → κ r M0 := by
    intro r M0 hB0 hA0
    refine hκ _ _ (fun D2 κ2 h2 => ?_)
    have t12 : Agree coreK m (zu M0 74 12 0) := hA0.trans (.of (L := [(74, some 12)]) (zFr.refl.set rfl) rfl)
    have fin : ∀ r2 M1, zB M1 → Agree coreK m M1 → κ2 r2 M1 := fun r2 M1 hB1 hA1 => h2 _ _ (fun x => x.elim) ⟨n, k, Inv_fr hA1 hB1 hI0⟩
    refine zb264_0 (D := D2 + 167) hT hB0 hv (fun _ hz => fin _ _ hz t12) (fun _ _ hz => fin _ _ hz t12) (fun q1 q2 hz => ?_)
    obtain ⟨x, rfl⟩ : ∃ x : Nat, v = (x : Int) := ⟨v.toNat, by omega⟩
    have hx63 : x ≤ 63 := by
      rw [hA0 74 4 rfl, n2, z_shl1T n (by omega)] at q2
      generalize 2 ^ n = P at p6 p1 q2
      rw [wr_id (by omega) (by omega)] at q2
      omega
    have fin107 : ∀ (i p e : Nat) (M : zM), p + i = n → e ≤ p → zB M → M 74 11 = (e : Int) → Agree coreK m M → T (D2 + 173) 264 (107, [(0, zr 74), (1, zi (x : Int)), (2, zi (p : Int))], [], M) κ2 := by
      intro i
      induction i with
      | zero =>
        intro p e M hp he hBM h11 hA
        have e4 : M 74 4 = (n : Int) := (hA 74 4 rfl).trans n2
        exact zb264_107 (D := D2 + 167) hT rfl hBM hx63 (by omega) (fun _ => fin _ _ hBM hA) (fun q => by omega) (fun q => by omega) (fun q => by omega)
      | succ i ih =>
        intro p e M hp he hBM h11 hA
        have e4 : M 74 4 = (n : Int) := (hA 74 4 rfl).trans n2
        refine zb264_107 (D := D2 + 167) hT rfl hBM hx63 (by omega) (fun q => by omega) (fun _ _ => ih (p + 1) e M (by omega) (by omega) hBM h11 hA) (fun _ _ => by omega) (fun _ _ => ?_)
        refine ih (p + 1) (e + 1) _ (by omega) (by omega) (zB_u (zB_u hBM trivial) ?_) (by rw [zu_sm rfl, h11]; omega) (hA.trans (.of (L := [(74, some 11), (81, none)]) ((zFr.refl.set rfl).set rfl) rfl))
        show 0 ≤ M 74 11 + 1 ∧ M 74 11 + 1 ≤ 32
        omega
    have h25 : ∀ (i p : Nat) (M : zM), p + i = n → zB M → Agree coreK m M → (∀ a c, a < p → c < k → 0 ≤ M 94 (8 * a + c) ∧ M 94 (8 * a + c) ≤ 1000) → T (D2 + 173) 264 (25, [(0, zr 74), (1, zi (x : Int)), (2, zi (p : Int))], [], M) κ2 := by
      intro i
      induction i with
      | zero =>
        intro p M hp hBM hA h94
        have ep : p = n := by omega
        subst ep
        have e4 : M 74 4 = (p : Int) := (hA 74 4 rfl).trans n2
        have e6 : M 74 6 = (k : Int) := (hA 74 6 rfl).trans k2
        refine zb264_25 (D := D2 + 167) hT rfl hBM hx63 (by omega) (fun _ hz2 => ?_) (fun q => by omega)
        have hA2 : Agree coreK m (zu M 74 47 100000000) := hA.trans (.of (L := [(74, some 47)]) (zFr.refl.set rfl) rfl)
        have hgo := z_goDress0 (N := p) (K := k) (x := x) hT (by omega) (by omega) hx63 p (D2 + 171 - p) (fun r m1 => T (D2 + 173) 264 (87, [(0, zr 74), (1, zi (x : Int)), (2, zi (p : Int))], r.toList ++ [], m1) κ2) _ 0 0 0 hz2 ((hA2 74 4 rfl).trans n2) ((hA2 74 6 rfl).trans k2) (fun a c ha hc => by rw [zu_dn (by omega)]; exact h94 a c ha hc) (by omega) (by omega) (by omega)
        rw [show D2 + 171 - p + p + 1 = D2 + 172 by omega] at hgo
        refine hgo (fun M3 hB3 hF3 => ?_)
        have hA3 : Agree coreK m M3 := hA2.trans (.of hF3 rfl)
        refine zb264_87 (D := D2 + 167) hT rfl hB3 hx63 (fun _ hz4 => ?_) (fun _ => fin _ _ hB3 hA3)
        exact fin107 p 0 0 _ (by omega) (by omega) hz4 (by rw [zu_sm rfl]; rfl) (hA3.trans (.of (L := [(74, some 11)]) (zFr.refl.set rfl) rfl))
      | succ i ih =>
        intro p M hp hBM hA h94
        have e4 : M 74 4 = (n : Int) := (hA 74 4 rfl).trans n2
        refine zb264_25 (D := D2 + 167) hT rfl hBM hx63 (by omega) (fun q => by omega) (fun _ => ?_)
        have h35 : ∀ (i2 c : Nat) (M : zM), c + i2 = k → zB M → Agree coreK m M → (∀ a b, a < p → b < k → 0 ≤ M 94 (8 * a + b) ∧ M 94 (8 * a + b) ≤ 1000) → (∀ b, b < c → 0 ≤ M 94 (8 * p + b) ∧ M 94 (8 * p + b) ≤ 1000) → T (D2 + 173) 264 (35, [(0, zr 74), (1, zi (x : Int)), (2, zi (p : Int)), (3, zi (c : Int))], [], M) κ2 := by
          intro i2
          induction i2 with
          | zero =>
            intro c M hc hBM hA h94 h94c
            have e6 : M 74 6 = (k : Int) := (hA 74 6 rfl).trans k2
            refine zb264_35 (D := D2 + 167) hT rfl hBM hx63 (by omega) (by omega) (fun _ => ?_) (fun q => by omega)
            refine ih (p + 1) M (by omega) hBM hA (fun a b ha hb => ?_)
            by_cases e : a = p
            · rw [e]
              exact h94c b (by omega)
            · exact h94 a b (by omega) hb
          | succ i2 ih2 =>
            intro c M hc hBM hA h94 h94c
            have e6 : M 74 6 = (k : Int) := (hA 74 6 rfl).trans k2
            refine zb264_35 (D := D2 + 167) hT rfl hBM hx63 (by omega) (by omega) (fun q => by omega) (fun _ => ?_)
            refine z_costR94 hT hI0 hBM hA (by omega) (by omega) (fun w M1 hw hB1 hA1 h1 => ?_)
            rw [show (8 * (p : Int)) + (c : Int) = ((8 * p + c : Nat) : Int) by omega]
            refine zb264_59 (D := D2 + 167) hT rfl hB1 hx63 (by omega) (by omega) hw (by omega) (fun hz3 => ?_)
            refine ih2 (c + 1) _ (by omega) hz3 (hA1.trans (.of (L := [(94, none)]) (zFr.refl.set rfl) rfl)) (fun a b ha hb => ?_) (fun b hb => ?_)
            · rw [zu_off (by omega), h1]
              exact h94 a b ha hb
            · by_cases e : b = c
              · rw [e, zu_sm rfl]
                exact hw
              · rw [zu_off (by omega), h1]
                exact h94c b (by omega)
        exact h35 k 0 M (by omega) hBM hA h94 (fun b hb => by omega)
    exact h25 n 0 _ (by omega) hz t12 (fun a c ha => by omega)
  refine zb144_0 hT i1 hv (fun _ => ref _ _ i1 (fun _ _ _ => rfl)) (fun q1 q2 => ?_) (fun _ _ => ref _ _ i1 (fun _ _ _ => rfl))
  obtain ⟨x, rfl⟩ : ∃ x : Nat, v = (x : Int) := ⟨v.toNat, by omega⟩
  have hx : x < 2 ^ n := by
    have e1 : z_shr (x : Int) (n : Int) = ((x / 2 ^ n : Nat) : Int) := by
      have hi := hv.2
      rw [z_shrE _ (by omega), wr_id (by omega) (by omega)]
      exact (Int.natCast_ediv x (2 ^ n)).symm.trans (by rw [Int.natCast_ediv])
    rw [n1, e1] at q2
    rcases Nat.lt_or_ge x (2 ^ n) with h | h
    · exact h
    · have := Nat.div_pos h (by omega)
      omega
  have hx63 : x ≤ 63 := by omega
  refine z_bitCount (D := D + 5) hT (by omega) ?_
  have p8 := popc8_8 x (by omega)
  refine zb144_22 hT rfl i1 hx63 (by omega) (fun q3 hz => ?_) (fun _ => ref _ _ i1 (fun _ _ _ => rfl))
  have loop : ∀ (j t : Nat) (M : zM), t + j = n → zB M → zFr (inL [(13, none), (52, some 1), (53, none)]) m M → M 52 1 = (pcn x t : Int) → T (D + 7) 144 (44, [(0, zr 1), (1, zi (x : Int)), (2, zi (t : Int))], [], M) κ := by
    intro j
    induction j with
    | zero =>
      intro t M ht hBM hF hc
      have et : t = n := by omega
      subst et
      have e17 : M 17 0 = (t : Int) := (hF 17 0 rfl).trans n1
      have hpc := pcn_le x (by omega) t (by omega)
      refine zb144_44 hT rfl hBM hx63 (by omega) (fun _ => ?_) (fun q => by omega) (fun q => by omega)
      refine z_dressCh0 (N := k) (cnt := pcn x t) hT hBM ((hF 17 1 rfl).trans k1) hc (by omega) (fun r M2 hr hB2 hF2 => ?_)
      have hFa : zFr (inL [(13, none), (52, some 1), (53, none), (57, none), (58, none)]) m M2 := (hF.sub (inL_sub (by decide))).trans (hF2.sub (inL_sub (by decide)))
      have hA : Agree coreK m M2 := .of hFa rfl
      refine zb144_93 hT rfl hB2 hr ?_
      rw [hF2 52 1 rfl, hc]
      refine zb48_0_58 (D := D + 4) hT hB2 (by omega) (fun _ hz => ?_) (fun _ hz => ?_)
      · exact zb144_115 hT rfl hr (ref _ _ hz (hA.trans (.of (L := [(72, some 1), (73, none)]) ((zFr.refl.set rfl).cp (fun _ => rfl)) rfl)))
      · exact zb144_115 hT rfl hr (ref _ _ hz (hA.trans (.of (L := [(72, some 1), (73, none)]) ((zFr.refl.set rfl).cp (fun _ => rfl)) rfl)))
    | succ j ih =>
      intro t M ht hBM hF hc
      have e17 : M 17 0 = (n : Int) := (hF 17 0 rfl).trans n1
      have hpc := pcn_le x (by omega) t (by omega)
      have hbit := z_bit (n := x) (i := t) (by omega) (by omega)
      refine zb144_44 hT rfl hBM hx63 (by omega) (fun q => by omega) (fun _ q => ?_) (fun _ q => ?_)
      · refine ih (t + 1) M (by omega) hBM hF ?_
        rw [hc, pcn]
        rw [hbit] at q
        cases hb : x.testBit t with
        | false => rfl
        | true =>
          rw [hb, if_pos rfl] at q
          exact absurd rfl q
      · have hbt : x.testBit t = true := by
          rw [hbit] at q
          cases hb : x.testBit t with
          | true => rfl
          | false =>
            rw [hb, if_neg (by simp)] at q
            cases q
        obtain ⟨r1, r2⟩ := hRel.1 t (by omega)
        have h18 := (hh t (by omega)).2
        have bpl := (hok.1 t (by omega)).1
        obtain ⟨pl, hpl⟩ : ∃ pl : Nat, m 75 t = (pl : Int) := ⟨(m 75 t).toNat, by omega⟩
        have hA : Agree KL m M := .of hF rfl
        refine z_lawNow (D := D + 2) (pl := pl) hT hBM (by omega) (by rw [hF 18 t rfl]; omega) (by rw [hF 19 t rfl]; omega) (by omega) (hA.law.1 i3).1 (fun M1 hB1 hF1 => ?_)
        have hF1b := hF1.sub rowL13
        have hFa : zFr (inL [(13, none), (52, some 1), (53, none)]) m M1 := hF.trans (hF1b.sub (inL_sub (by decide)))
        have e52 : M1 52 1 = (pcn x t : Int) := (hF1b 52 1 rfl).trans hc
        refine zb144_73 hT rfl hB1 hx63 (by omega) LWB (fun q => by omega) (fun _ hz2 => ?_)
        refine ih (t + 1) _ (by omega) hz2 ((hFa.set rfl).set rfl) ?_
        rw [zu_sm rfl, e52, pcn, if_pos hbt]
        omega
  exact loop n 0 _ (by omega) hz (zFr.refl.set rfl) (by rw [zu_sm rfl]; rfl)
end ZDress
