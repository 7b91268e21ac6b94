/-! way(): how many, by both. -/
/-- the least of the first j numbers that is v or more (-1: none) -/
noncomputable def nxv (L : Nat → Int) (v : Int) : Nat → Int
  | 0 => -1
  | j + 1 => if L j < v then nxv L v j else if nxv L v j = -1 then L j else if L j < nxv L v j then L j else nxv L v j
theorem nxv_ok {L : Nat → Int} {v : Int} : ∀ N : Nat, (∀ k, k < N → 0 ≤ L k) → (nxv L v N = -1 ∧ ∀ k, k < N → L k < v) ∨ (0 ≤ nxv L v N ∧ v ≤ nxv L v N ∧ (∃ k, k < N ∧ L k = nxv L v N) ∧ ∀ k, k < N → v ≤ L k → nxv L v N ≤ L k)
  | 0, _ => Or.inl ⟨rfl, fun k hk => absurd hk (Nat.not_lt_zero k)⟩
  | N + 1, h => by
    have ih := nxv_ok (v := v) N (fun k hk => h k (by omega))
    have h0 := h N (by omega)
    rw [nxv]
    by_cases q1 : L N < v
    · rw [if_pos q1]
      rcases ih with ⟨e, i1⟩ | ⟨i0, i1, ⟨k, k1, k2⟩, i2⟩
      · refine Or.inl ⟨e, fun k hk => ?_⟩
        by_cases e2 : k = N
        · rw [e2]; exact q1
        · exact i1 k (by omega)
      · refine Or.inr ⟨i0, i1, ⟨k, by omega, k2⟩, fun k hk hv => ?_⟩
        by_cases e2 : k = N
        · rw [e2] at hv; omega
        · exact i2 k (by omega) hv
    · rw [if_neg q1]
      rcases ih with ⟨e, i1⟩ | ⟨i0, i1, ⟨k, k1, k2⟩, i2⟩
      · rw [if_pos e]
        refine Or.inr ⟨h0, by omega, ⟨N, by omega, rfl⟩, fun k hk hv => ?_⟩
        by_cases e2 : k = N
        · rw [e2]; exact Int.le_refl _
        · have := i1 k (by omega); omega
      · rw [if_neg (by omega)]
        by_cases q2 : L N < nxv L v N
        · rw [if_pos q2]
          refine Or.inr ⟨h0, by omega, ⟨N, by omega, rfl⟩, fun k hk hv => ?_⟩
          by_cases e2 : k = N
          · rw [e2]; exact Int.le_refl _
          · have := i2 k (by omega) hv; omega
        · rw [if_neg q2]
          refine Or.inr ⟨i0, i1, ⟨k, by omega, k2⟩, fun k hk hv => ?_⟩
          by_cases e2 : k = N
          · rw [e2]; omega
          · exact i2 k (by omega) hv
theorem nxv_congr {L L2 : Nat → Int} {v : Int} : ∀ N : Nat, (∀ k, k < N → L2 k = L k) → nxv L2 v N = nxv L v N
  | 0, _ => rfl
  | N + 1, h => by
    rw [nxv, nxv, h N (by omega), nxv_congr N (fun k hk => h k (by omega))]
/-- how many from the law w on: at most j -/
noncomputable def pkv (L : Nat → Int) (N : Nat) (h : Int) : Nat → Int → Nat
  | 0, _ => 0
  | j + 1, w => if w = -1 then 0 else pkv L N h j (nxv L (w + h + 1) N) + 1
theorem pkv_none {L : Nat → Int} {N : Nat} {h : Int} : ∀ j : Nat, pkv L N h j (-1) = 0
  | 0 => rfl
  | j + 1 => by rw [pkv, if_pos rfl]
theorem pkv_congr {L L2 : Nat → Int} {N : Nat} {h : Int} (he : ∀ k, k < N → L2 k = L k) : ∀ (j : Nat) (w : Int), pkv L2 N h j w = pkv L N h j w
  | 0, _ => rfl
  | j + 1, w => by
    rw [pkv, pkv, nxv_congr N he, pkv_congr he j]
/-- how many of the numbers are v or more -/
noncomputable def cge (L : Nat → Int) (v : Int) : Nat → Nat
  | 0 => 0
  | j + 1 => if v ≤ L j then cge L v j + 1 else cge L v j
theorem cge_le {L : Nat → Int} {v : Int} : ∀ N : Nat, cge L v N ≤ N
  | 0 => Nat.le_refl 0
  | N + 1 => by
    have := cge_le (L := L) (v := v) N
    rw [cge]
    split <;> omega
theorem cge_mono {L : Nat → Int} {v u : Int} (h : v ≤ u) : ∀ N : Nat, cge L u N ≤ cge L v N
  | 0 => Nat.le_refl 0
  | N + 1 => by
    have := cge_mono (L := L) h N
    rw [cge, cge]
    by_cases q : u ≤ L N
    · rw [if_pos q, if_pos (by omega)]; omega
    · rw [if_neg q]
      split <;> omega
theorem cge_lt {L : Nat → Int} {v u : Int} (h : v ≤ u) : ∀ N : Nat, (∃ k, k < N ∧ v ≤ L k ∧ L k < u) → cge L u N + 1 ≤ cge L v N
  | 0, ⟨k, hk, _⟩ => absurd hk (Nat.not_lt_zero k)
  | N + 1, ⟨k, hk, h1, h2⟩ => by
    have hm := cge_mono (L := L) h N
    rw [cge, cge]
    by_cases e : k = N
    · subst e
      rw [if_neg (by omega), if_pos h1]
      omega
    · have ih := cge_lt (L := L) h N ⟨k, by omega, h1, h2⟩
      by_cases q : u ≤ L N
      · rw [if_pos q, if_pos (by omega)]; omega
      · rw [if_neg q]
        split <;> omega
theorem y_wK {A : Int → Prop} {m : Int} {a : Nat} : ∀ d : Nat, (∀ x : Nat, a ≤ x → x < a + d → ¬ (A (x : Int) ∧ ¬((x : Int) ≤ (y_w A m a).2 ∧ (y_w A m a).2 ≤ (x : Int) + m))) → y_w A m (a + d) = y_w A m a
  | 0, _ => rfl
  | d + 1, h => by
    have ih := y_wK (A := A) (m := m) (a := a) d (fun x h1 h2 => h x h1 (by omega))
    rcases y_wS A m (a + d) with ⟨q, -⟩ | ⟨-, e⟩
    · rw [ih] at q
      exact absurd q (h (a + d) (by omega) (by omega))
    · rw [show a + (d + 1) = a + d + 1 by omega, e, ih]
theorem few_w {L : Nat → Int} {N : Nat} {h : Int} (hh : 0 ≤ h) (hL : ∀ k, k < N → 0 ≤ L k ∧ L k ≤ 99) : ∀ (j v : Nat), v ≤ 100 → cge L (v : Int) N ≤ j → (y_w (fun x => ∃ k : Nat, k < N ∧ L k = x) h v).2 < (v : Int) → (y_w (fun x => ∃ k : Nat, k < N ∧ L k = x) h 100).1 = (y_w (fun x => ∃ k : Nat, k < N ∧ L k = x) h v).1 + (pkv L N h j (nxv L (v : Int) N) : Nat) := by
  intro j
  induction j with
  | zero =>
    intro v hv hc hl
    have e := y_wK (A := fun x => ∃ k : Nat, k < N ∧ L k = x) (m := h) (a := v) (100 - v) (fun x h1 h2 => fun ⟨⟨k, k1, k2⟩, _⟩ => by
      have := cge_lt (L := L) (v := (v : Int)) (u := 100) (by omega) N ⟨k, k1, by omega, by have := (hL k k1).2; omega⟩
      omega)
    rw [show v + (100 - v) = 100 by omega] at e
    rw [e, pkv]
    omega
  | succ j ih =>
    intro v hv hc hl
    rcases nxv_ok (L := L) (v := (v : Int)) N (fun k hk => (hL k hk).1) with ⟨e1, i1⟩ | ⟨i0, i1, ⟨k, k1, k2⟩, i2⟩
    · have e := y_wK (A := fun x => ∃ k : Nat, k < N ∧ L k = x) (m := h) (a := v) (100 - v) (fun x h1 h2 => fun ⟨⟨k, k1, k2⟩, _⟩ => by
        have := i1 k k1
        omega)
      rw [show v + (100 - v) = 100 by omega] at e
      rw [e, e1, pkv_none]
      omega
    · generalize nxv L (v : Int) N = w at i0 i1 k2 i2 ⊢
      obtain ⟨w, rfl⟩ : ∃ q : Nat, w = (q : Int) := ⟨w.toNat, by omega⟩
      have hw := (hL k k1).2
      have eK := y_wK (A := fun x => ∃ k : Nat, k < N ∧ L k = x) (m := h) (a := v) (w - v) (fun x h1 h2 => fun ⟨⟨q, q1, q2⟩, _⟩ => by
        have := i2 q q1 (by omega)
        omega)
      rw [show v + (w - v) = w by omega] at eK
      have eP : y_w (fun x => ∃ k : Nat, k < N ∧ L k = x) h (w + 1) = ((y_w (fun x => ∃ k : Nat, k < N ∧ L k = x) h v).1 + 1, (w : Int) + h) := by
        rcases y_wS (fun x => ∃ k : Nat, k < N ∧ L k = x) h w with ⟨-, e⟩ | ⟨q, -⟩
        · rw [e, eK]
        · rw [eK] at q
          exact absurd ⟨⟨k, k1, k2⟩, fun x => by omega⟩ q
      rw [pkv, if_neg (by omega)]
      obtain ⟨hn, rfl⟩ : ∃ q : Nat, h = (q : Int) := ⟨h.toNat, by omega⟩
      by_cases q : w + hn + 1 ≤ 100
      · have eC := y_wK (A := fun x => ∃ k : Nat, k < N ∧ L k = x) (m := (hn : Int)) (a := w + 1) hn (fun x h1 h2 => fun ⟨_, q2⟩ => q2 (by
          rw [eP]
          exact ⟨by show (x : Int) ≤ (w : Int) + hn; omega, by show (w : Int) + hn ≤ (x : Int) + hn; omega⟩))
        rw [show w + 1 + hn = w + hn + 1 by omega] at eC
        have hlt := cge_lt (L := L) (v := (v : Int)) (u := ((w + hn + 1 : Nat) : Int)) (by omega) N ⟨k, k1, by omega, by omega⟩
        have := ih (w + hn + 1) q (by omega) (by rw [eC, eP]; show (w : Int) + hn < _; omega)
        rw [eC, eP] at this
        rw [this, show ((w + hn + 1 : Nat) : Int) = (w : Int) + hn + 1 by omega]
        show (y_w (fun x => ∃ k : Nat, k < N ∧ L k = x) (hn : Int) v).1 + 1 + _ = _
        omega
      · have eC := y_wK (A := fun x => ∃ k : Nat, k < N ∧ L k = x) (m := (hn : Int)) (a := w + 1) (100 - (w + 1)) (fun x h1 h2 => fun ⟨_, q2⟩ => q2 (by
          rw [eP]
          exact ⟨by show (x : Int) ≤ (w : Int) + hn; omega, by show (w : Int) + hn ≤ (x : Int) + hn; omega⟩))
        rw [show w + 1 + (100 - (w + 1)) = 100 by omega] at eC
        have e1 : nxv L ((w : Int) + hn + 1) N = -1 := by
          rcases nxv_ok (L := L) (v := (w : Int) + hn + 1) N (fun k hk => (hL k hk).1) with ⟨e1, -⟩ | ⟨-, x1, ⟨k3, x2, x3⟩, -⟩
          · exact e1
          · have := (hL k3 x2).2
            omega
        rw [eC, eP, e1, pkv_none]
        show (y_w (fun x => ∃ k : Nat, k < N ∧ L k = x) (hn : Int) v).1 + 1 = _
        omega
theorem few_want {L L2 Tk : Nat → Int} {N : Nat} {h : Int} (hh : 0 ≤ h) (hL : ∀ k, k < N → 0 ≤ L k ∧ L k ≤ 99) (e : ∀ k, k < N → L2 k = L k) : y_want L2 Tk h (N : Int) ((0 : Nat) : Int) = ((pkv L N h N (nxv L 0 N) : Nat) : Int) := by
  have key := few_w hh hL N 0 (by omega) (cge_le N) (by show (-1 : Int) < 0; decide)
  have e2 : y_w (y_A L2 Tk h (N : Int) ((0 : Nat) : Int)) h 100 = y_w (fun x => ∃ k : Nat, k < N ∧ L k = x) h 100 := y_wE (fun v _ => by
    constructor
    · rintro ⟨⟨k, k1, k2⟩, -⟩
      exact ⟨k, by omega, by rw [← e k (by omega)]; exact k2⟩
    · rintro ⟨k, k1, k2⟩
      exact ⟨⟨k, by omega, by rw [e k k1]; exact k2⟩, fun ⟨i, i1, _⟩ => by omega⟩)
  unfold y_want
  rw [e2, key]
  show (0 : Int) + _ = _
  rw [Int.zero_add]
  rfl
section ZFewest
variable {T : Nat → Nat → zG → (Option zA → zM → Prop) → Prop} {B : Int}
theorem z_nextLaw (hT : zRules T) {D : Nat} {κ : Option zA → zM → Prop} {m : zM} {v : Int} {N : Nat} (hB : zB m) (hN : m 52 1 = (N : Int)) (hv : -1 ≤ v ∧ v ≤ 200) (hk : (-1 ≤ nxv (m 53) v N ∧ nxv (m 53) v N ≤ 99) → κ (some (zi (nxv (m 53) v N))) m) : T (D + 2) 92 (0, [(0, zr 52), (1, zi v)], [], m) κ := by
  have b52 : 0 ≤ m 52 1 ∧ m 52 1 ≤ 60 := hB 52 1
  have rng : ∀ t : Nat, -1 ≤ nxv (m 53) v t ∧ nxv (m 53) v t ≤ 99 := by
    intro t
    induction t with
    | zero => exact ⟨Int.le_refl _, by show (-1 : Int) ≤ 99; decide⟩
    | succ t ih =>
      have b53 : 0 ≤ m 53 t ∧ m 53 t ≤ 99 := hB 53 t
      rw [nxv]
      split
      · exact ih
      · split
        · omega
        · split <;> omega
  have key : ∀ (j t : Nat), t + j = N → T (D + 2) 92 (4, [(0, zr 52), (1, zi v), (2, zi (nxv (m 53) v t)), (3, zi (t : Int))], [], m) κ := by
    intro j
    induction j with
    | zero =>
      intro t ht
      have et : t = N := by omega
      subst et
      exact zb92_4 hT rfl hB hv (rng t) (by omega) (fun _ => hk (rng t)) (fun q => by omega) (fun q => by omega) (fun q => by omega) (fun q => by omega)
    | succ j ih =>
      intro t ht
      have b53 : 0 ≤ m 53 t ∧ m 53 t ≤ 99 := hB 53 t
      have h1 := ih (t + 1) (by omega)
      rw [nxv] at h1
      refine zb92_4 hT rfl hB hv (rng t) (by omega) (fun q => by omega) (fun _ q => ?_) (fun _ q q2 => ?_) (fun _ q q2 q3 => ?_) (fun _ q q2 q3 => ?_)
      · rw [if_pos q] at h1
        exact h1
      · rw [if_neg q, if_pos q2] at h1
        exact h1
      · rw [if_neg q, if_neg q2, if_neg q3] at h1
        exact h1
      · rw [if_neg q, if_neg q2, if_pos q3] at h1
        exact h1
  exact zb92_0 hT hB hv (key N 0 (by omega))
theorem z_countFew (hT : zRules T) {D : Nat} {κ : Option zA → zM → Prop} {m : zM} {v h : Int} {N : Nat} (hB : zB m) (hN : m 52 1 = (N : Int)) (hv : -1 ≤ v ∧ v ≤ 200) (hh : 0 ≤ h ∧ h ≤ 9) (hk : pkv (m 53) N h N (nxv (m 53) v N) ≤ N → κ (some (zi ((pkv (m 53) N h N (nxv (m 53) v N) : Nat) : Int))) m) : T (D + 3) 93 (0, [(0, zr 52), (1, zi v), (2, zi h)], [], m) κ := by
  have b52 : 0 ≤ m 52 1 ∧ m 52 1 ≤ 60 := hB 52 1
  have key : ∀ (j t c : Nat) (w : Int), t + j = N → c ≤ t → (-1 ≤ w ∧ w ≤ 99) → c + pkv (m 53) N h j w = pkv (m 53) N h N (nxv (m 53) v N) → T (D + 3) 93 (12, [(0, zr 52), (2, zi h), (3, zi (c : Int)), (4, zi w), (5, zi (t : Int))], [], m) κ := by
    intro j
    induction j with
    | zero =>
      intro t c w ht hc hw he
      rw [pkv, Nat.add_zero] at he
      refine zb93_12 hT rfl hB hh (by omega) hw (by omega) (fun _ => ?_) (fun q => by omega) (fun q => by omega)
      rw [he]
      exact hk (by omega)
    | succ j ih =>
      intro t c w ht hc hw he
      refine zb93_12 hT rfl hB hh (by omega) hw (by omega) (fun q => by omega) (fun _ q => ?_) (fun _ q => ?_)
      · rw [pkv, if_pos q, Nat.add_zero] at he
        rw [he]
        exact hk (by omega)
      · rw [pkv, if_neg q] at he
        refine z_nextLaw hT hB hN (by omega) (fun hf => ?_)
        exact zb93_40 (c := c + 1) hT rfl hB hh (by omega) hf (by omega) (ih (t + 1) (c + 1) _ (by omega) (by omega) hf (by omega))
  refine zb93_0 hT hB hv hh ?_
  refine z_nextLaw (D := D) hT hB hN hv (fun hf => ?_)
  exact zb93_7 (c := 0) hT rfl hB hh (by omega) hf (key N 0 0 _ (by omega) (by omega) hf (by omega))
/-- how many the class packs (which: not told) -/
theorem z_packFewN (hT : zRules T) {D : Nat} {κ : Option zA → zM → Prop} {m : zM} {h : Int} {N : Nat} (hB : zB m) (hN : m 52 1 = (N : Int)) (hh : 0 ≤ h ∧ h ≤ 9) (hk : ∀ M, pkv (m 53) N h N (nxv (m 53) 0 N) ≤ N → zB M → zFr (inL [(58, none)]) m M → κ (some (zi ((pkv (m 53) N h N (nxv (m 53) 0 N) : Nat) : Int))) M) : T (D + 4) 91 (0, [(0, zr 52), (1, zi h)], [], m) κ := by
  have b52 : 0 ≤ m 52 1 ∧ m 52 1 ≤ 60 := hB 52 1
  refine zb91_0 hT hB hh ?_
  refine z_countFew hT hB hN (by omega) hh (fun hn => ?_)
  generalize pkv (m 53) N h N (nxv (m 53) 0 N) = n at hn hk ⊢
  refine zb91_6 hT rfl hB hh (by omega) ?_
  refine z_nextLaw0 (D := D + 1) hT hB hN (by omega) (fun a ha => ?_)
  refine zb91_12 hT rfl hB hh (by omega) ha ?_
  have outer : ∀ (j i : Nat) (a : Int) (M : zM), i + j = 60 → (-1 ≤ a ∧ a ≤ 99) → zB M → zFr (inL [(58, none)]) m M → T (D + 4) 91 (16, [(0, zr 52), (1, zi h), (2, zi (n : Int)), (3, zi a), (4, zi (i : Int))], [], M) κ := by
    intro j
    induction j with
    | zero =>
      intro i a M hi ha hBM hF
      exact zb91_16 hT rfl hBM hh (by omega) ha (by omega) (fun _ => hk M (by omega) hBM hF) (fun _ _ => hk M (by omega) hBM hF) (fun _ q => by omega)
    | succ j ih =>
      intro i a M hi ha hBM hF
      refine zb91_16 hT rfl hBM hh (by omega) ha (by omega) (fun _ => hk M (by omega) hBM hF) (fun _ _ => hk M (by omega) hBM hF) (fun _ i26 => ?_)
      have e52 : M 52 1 = (N : Int) := (hF 52 1 rfl).trans hN
      have out : ∀ b : Int, (-1 ≤ b ∧ b ≤ 108) → zB (zu M 58 i b) → T (D + 3) 92 (0, [(0, zr 52), (1, zi (b + 1))], [], (zu M 58 i b)) (fun r m1 => T (D + 4) 91 (84, [(0, zr 52), (1, zi h), (2, zi (n : Int)), (3, zi a), (4, zi (i : Int)), (5, zi b)], r.toList ++ [], m1) κ) := by
        intro b hb hz
        refine z_nextLaw0 (D := D + 1) (N := N) hT hz (by rw [zu_dn (by omega), e52]) (by omega) (fun f hf => ?_)
        exact zb91_84 hT rfl hz hh (by omega) (by omega) hf (ih (i + 1) f _ (by omega) hf hz (hF.set rfl))
      have inner : ∀ (q : Nat) (b : Int), b + q = a + h → (-1 ≤ b ∧ b ≤ 108) → T (D + 4) 91 (35, [(0, zr 52), (1, zi h), (2, zi (n : Int)), (3, zi a), (4, zi (i : Int)), (5, zi b)], [], M) κ := by
        intro q
        induction q with
        | zero =>
          intro b hbq hb
          exact zb91_35 hT rfl hBM hh (by omega) ha (by omega) hb (fun _ => by omega) (fun _ hz => out b hb hz) (fun x => by omega)
        | succ q ih2 =>
          intro b hbq hb
          refine zb91_35 hT rfl hBM hh (by omega) ha (by omega) hb (fun _ => by omega) (fun _ hz => out b hb hz) (fun _ => ?_)
          refine z_countFew0 (D := D) (N := N) hT hBM e52 (by omega) hh (fun v hv => ?_)
          exact zb91_52 hT rfl hBM hh (by omega) ha (by omega) hb (by omega) (fun _ => by omega) (fun _ hz => out b hb hz) (fun _ => ih2 (b + 1) (by omega) (by omega))
      exact inner h.toNat a (by omega) (by omega)
  exact outer 60 0 a m (by omega) ha hB zFr.refl
end ZFewest
