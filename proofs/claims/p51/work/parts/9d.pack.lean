/-! The class's packing of a trunk: it ends (way(), trunk()). -/
section ZPack
variable {T : Nat → Nat → zG → (Option zA → zM → Prop) → Prop} {B : Int}
theorem z_nextLaw0 (hT : zRules T) {D : Nat} {κ : Option zA → zM → Prop} {m : zM} {v : Int} {N : Nat} (hB : zB m) (hN : m 52 1 = (N : Int)) (hv : -1 ≤ v ∧ v ≤ 200) (hk : ∀ f : Int, (-1 ≤ f ∧ f ≤ 99) → κ (some (zi f)) m) : T (D + 2) 92 (0, [(0, zr 52), (1, zi v)], [], m) κ := by
  have b52 : 0 ≤ m 52 1 ∧ m 52 1 ≤ 60 := hB 52 1
  have key : ∀ (j t : Nat) (f : Int), t + j = N → (-1 ≤ f ∧ f ≤ 99) → T (D + 2) 92 (4, [(0, zr 52), (1, zi v), (2, zi f), (3, zi (t : Int))], [], m) κ := by
    intro j
    induction j with
    | zero =>
      intro t f ht hf
      exact zb92_4 hT rfl hB hv hf (by omega) (fun _ => hk f hf) (fun q => by omega) (fun q => by omega) (fun q => by omega) (fun q => by omega)
    | succ j ih =>
      intro t f ht hf
      have b53 : 0 ≤ m 53 t ∧ m 53 t ≤ 99 := hB 53 t
      exact zb92_4 hT rfl hB hv hf (by omega) (fun q => by omega) (fun _ _ => ih (t + 1) f (by omega) hf) (fun _ _ _ => ih (t + 1) _ (by omega) (by omega)) (fun _ _ _ _ => ih (t + 1) f (by omega) hf) (fun _ _ _ _ => ih (t + 1) _ (by omega) (by omega))
  exact zb92_0 hT hB hv (key N 0 (-1) (by omega) (by omega))
theorem z_countFew0 (hT : zRules T) {D : Nat} {κ : Option zA → zM → Prop} {m : zM} {v h : Int} {N : Nat} (hB : zB m) (hN : m 52 1 = (N : Int)) (hv : -1 ≤ v ∧ v ≤ 200) (hh : 0 ≤ h ∧ h ≤ 9) (hk : ∀ c : Nat, c ≤ N → κ (some (zi (c : Int))) m) : T (D + 3) 93 (0, [(0, zr 52), (1, zi v), (2, zi h)], [], m) κ := by
  have b52 : 0 ≤ m 52 1 ∧ m 52 1 ≤ 60 := hB 52 1
  have key : ∀ (j t c : Nat) (w : Int), t + j = N → c ≤ t → (-1 ≤ w ∧ w ≤ 99) → T (D + 3) 93 (12, [(0, zr 52), (2, zi h), (3, zi (c : Int)), (4, zi w), (5, zi (t : Int))], [], m) κ := by
    intro j
    induction j with
    | zero =>
      intro t c w ht hc hw
      exact zb93_12 hT rfl hB hh (by omega) hw (by omega) (fun _ => hk c (by omega)) (fun q => by omega) (fun q => by omega)
    | succ j ih =>
      intro t c w ht hc hw
      refine zb93_12 hT rfl hB hh (by omega) hw (by omega) (fun q => by omega) (fun _ _ => hk c (by omega)) (fun _ _ => ?_)
      refine z_nextLaw0 hT hB hN (by omega) (fun f hf => ?_)
      exact zb93_40 (c := c + 1) hT rfl hB hh (by omega) hf (by omega) (ih (t + 1) (c + 1) f (by omega) (by omega) hf)
  refine zb93_0 hT hB hv hh ?_
  refine z_nextLaw0 (D := D) hT hB hN hv (fun f hf => ?_)
  exact zb93_7 (c := 0) hT rfl hB hh (by omega) hf (key N 0 0 f (by omega) (by omega) hf)
theorem z_packFew0 (hT : zRules T) {D : Nat} {κ : Option zA → zM → Prop} {m : zM} {h : Int} (hB : zB m) (hh : 0 ≤ h ∧ h ≤ 9) (hk : ∀ (c : Nat) M, (c : Int) ≤ m 52 1 → zB M → zFr (inL [(58, none)]) m M → κ (some (zi (c : Int))) M) : T (D + 4) 91 (0, [(0, zr 52), (1, zi h)], [], m) κ := by
  have b52 : 0 ≤ m 52 1 ∧ m 52 1 ≤ 60 := hB 52 1
  obtain ⟨N, hN⟩ : ∃ N : Nat, m 52 1 = (N : Int) := ⟨(m 52 1).toNat, by omega⟩
  refine zb91_0 hT hB hh ?_
  refine z_countFew0 hT hB hN (by omega) hh (fun n hn => ?_)
  refine zb91_6 hT rfl hB hh (by omega) ?_
  refine z_nextLaw0 (D := D + 1) hT hB hN (by omega) (fun a ha => ?_)
  refine zb91_12 hT rfl hB hh (by omega) ha ?_
  have outer : ∀ (j i : Nat) (a : Int) (M : zM), i + j = 60 → (-1 ≤ a ∧ a ≤ 99) → zB M → zFr (inL [(58, none)]) m M → T (D + 4) 91 (16, [(0, zr 52), (1, zi h), (2, zi (n : Int)), (3, zi a), (4, zi (i : Int))], [], M) κ := by
    intro j
    induction j with
    | zero =>
      intro i a M hi ha hBM hF
      exact zb91_16 hT rfl hBM hh (by omega) ha (by omega) (fun _ => hk n M (by omega) hBM hF) (fun _ _ => hk n M (by omega) hBM hF) (fun _ q => by omega)
    | succ j ih =>
      intro i a M hi ha hBM hF
      refine zb91_16 hT rfl hBM hh (by omega) ha (by omega) (fun _ => hk n M (by omega) hBM hF) (fun _ _ => hk n M (by omega) hBM hF) (fun _ i26 => ?_)
      have e52 : M 52 1 = (N : Int) := (hF 52 1 rfl).trans hN
      have out : ∀ b : Int, (-1 ≤ b ∧ b ≤ 108) → zB (zu M 58 i b) → T (D + 3) 92 (0, [(0, zr 52), (1, zi (b + 1))], [], (zu M 58 i b)) (fun r m1 => T (D + 4) 91 (84, [(0, zr 52), (1, zi h), (2, zi (n : Int)), (3, zi a), (4, zi (i : Int)), (5, zi b)], r.toList ++ [], m1) κ) := by
        intro b hb hz
        refine z_nextLaw0 (D := D + 1) (N := N) hT hz (by rw [zu_dn (by omega), e52]) (by omega) (fun f hf => ?_)
        exact zb91_84 hT rfl hz hh (by omega) (by omega) hf (ih (i + 1) f _ (by omega) hf hz (hF.set rfl))
      have inner : ∀ (q : Nat) (b : Int), b + q = a + h → (-1 ≤ b ∧ b ≤ 108) → T (D + 4) 91 (35, [(0, zr 52), (1, zi h), (2, zi (n : Int)), (3, zi a), (4, zi (i : Int)), (5, zi b)], [], M) κ := by
        intro q
        induction q with
        | zero =>
          intro b hbq hb
          exact zb91_35 hT rfl hBM hh (by omega) ha (by omega) hb (fun _ => by omega) (fun _ hz => out b hb hz) (fun x => by omega)
        | succ q ih2 =>
          intro b hbq hb
          refine zb91_35 hT rfl hBM hh (by omega) ha (by omega) hb (fun _ => by omega) (fun _ hz => out b hb hz) (fun _ => ?_)
          refine z_countFew0 (D := D) (N := N) hT hBM e52 (by omega) hh (fun v hv => ?_)
          exact zb91_52 hT rfl hBM hh (by omega) ha (by omega) hb (by omega) (fun _ => by omega) (fun _ hz => out b hb hz) (fun _ => ih2 (b + 1) (by omega) (by omega))
      exact inner h.toNat a (by omega) (by omega)
  exact outer 60 0 a m (by omega) ha hB zFr.refl
end ZPack
