/-! hired(): the least, by both. -/
/-- what tailor c sews of the first k -/
noncomputable def hL (H : Nat → Int) (f : Nat → Nat) (c : Nat) : Nat → Int
  | 0 => 0
  | k + 1 => hL H f c k + (if f k = c then H k else 0)
noncomputable def hmx (a b : Int) : Int := if a < b then b else a
theorem hmx_or (a b : Int) : (hmx a b = a ∧ b ≤ a) ∨ (hmx a b = b ∧ a < b) := by
  unfold hmx
  split <;> omega
/-- when the last of them is done -/
noncomputable def hV (H : Nat → Int) (f : Nat → Nat) (k : Nat) : Int := hmx (hL H f 0 k) (hmx (hL H f 1 k) (hL H f 2 k))
theorem hV_or (H : Nat → Int) (f : Nat → Nat) (k : Nat) : (hV H f k = hL H f 0 k ∨ hV H f k = hL H f 1 k ∨ hV H f k = hL H f 2 k) ∧ hL H f 0 k ≤ hV H f k ∧ hL H f 1 k ≤ hV H f k ∧ hL H f 2 k ≤ hV H f k := by
  have h1 := hmx_or (hL H f 1 k) (hL H f 2 k)
  have h2 := hmx_or (hL H f 0 k) (hmx (hL H f 1 k) (hL H f 2 k))
  unfold hV
  omega
theorem hL_yes {H : Nat → Int} {f : Nat → Nat} {c k : Nat} (h : f k = c) : hL H f c (k + 1) = hL H f c k + H k := by rw [hL, if_pos h]
theorem hL_no {H : Nat → Int} {f : Nat → Nat} {c k : Nat} (h : ¬ f k = c) : hL H f c (k + 1) = hL H f c k := by rw [hL, if_neg h, Int.add_zero]
theorem hL_rng {H : Nat → Int} {f : Nat → Nat} {c : Nat} (hH : ∀ j, 0 ≤ H j ∧ H j ≤ 20) : ∀ k : Nat, 0 ≤ hL H f c k ∧ hL H f c k ≤ 20 * k
  | 0 => ⟨Int.le_refl 0, by rw [hL]; omega⟩
  | k + 1 => by
    have ih := hL_rng (f := f) (c := c) hH k
    have h := hH k
    by_cases e : f k = c
    · rw [hL_yes e]; omega
    · rw [hL_no e]; omega
theorem hL_congr {H : Nat → Int} {f g : Nat → Nat} {c : Nat} : ∀ k : Nat, (∀ j, j < k → g j = f j) → hL H g c k = hL H f c k
  | 0, _ => rfl
  | k + 1, h => by rw [hL, hL, hL_congr k (fun j hj => h j (by omega)), h k (by omega)]
theorem hV_congr {H : Nat → Int} {f g : Nat → Nat} {k : Nat} (h : ∀ j, j < k → g j = f j) : hV H g k = hV H f k := by
  unfold hV
  rw [hL_congr k h, hL_congr k h, hL_congr k h]
theorem hV_rng {H : Nat → Int} {f : Nat → Nat} {k : Nat} (hH : ∀ j, 0 ≤ H j ∧ H j ≤ 20) : 0 ≤ hV H f k ∧ hV H f k ≤ 20 * k := by
  have u := hV_or H f k
  have h0 := hL_rng (f := f) (c := 0) hH k
  have h1 := hL_rng (f := f) (c := 1) hH k
  have h2 := hL_rng (f := f) (c := 2) hH k
  omega
theorem hV_step {H : Nat → Int} {f : Nat → Nat} {k c : Nat} (hH : ∀ j, 0 ≤ H j ∧ H j ≤ 20) (hc : f k = c) (h3 : c < 3) : hV H f (k + 1) = if hV H f k < hL H f c k + H k then hL H f c k + H k else hV H f k := by
  have u := hV_or H f k
  have v := hV_or H f (k + 1)
  have h := hH k
  have q : c = 0 ∨ c = 1 ∨ c = 2 := by omega
  rcases q with rfl | rfl | rfl
  · rw [hL_yes hc, hL_no (show ¬ f k = 1 by omega), hL_no (show ¬ f k = 2 by omega)] at v
    split <;> omega
  · rw [hL_yes hc, hL_no (show ¬ f k = 0 by omega), hL_no (show ¬ f k = 2 by omega)] at v
    split <;> omega
  · rw [hL_yes hc, hL_no (show ¬ f k = 0 by omega), hL_no (show ¬ f k = 1 by omega)] at v
    split <;> omega
theorem hV_le {H : Nat → Int} {f : Nat → Nat} (hH : ∀ j, 0 ≤ H j ∧ H j ≤ 20) (k : Nat) : ∀ d : Nat, hV H f k ≤ hV H f (k + d)
  | 0 => Int.le_refl _
  | d + 1 => by
    have ih := hV_le (f := f) hH k d
    have u := hV_or H f (k + d)
    have v := hV_or H f (k + d + 1)
    have mm : ∀ c, hL H f c (k + d) ≤ hL H f c (k + d + 1) := fun c => by
      have := hH (k + d)
      by_cases e : f (k + d) = c
      · rw [hL_yes e]; omega
      · rw [hL_no e]; exact Int.le_refl _
    have m0 := mm 0
    have m1 := mm 1
    have m2 := mm 2
    show hV H f k ≤ hV H f (k + d + 1)
    omega
theorem hL_map {H : Nat → Int} {f g : Nat → Nat} {c d : Nat} (h : ∀ i, g i = c ↔ f i = d) : ∀ k : Nat, hL H g c k = hL H f d k
  | 0 => rfl
  | k + 1 => by
    by_cases e : f k = d
    · rw [hL_yes ((h k).2 e), hL_yes e, hL_map h k]
    · rw [hL_no (fun q => e ((h k).1 q)), hL_no e, hL_map h k]
/-- the first job may be given to the first tailor -/
theorem hV_swap {H : Nat → Int} {f : Nat → Nat} {w : Nat} (N : Nat) (hw : w ≤ 3) (hf : ∀ i, f i < w) : ∃ g : Nat → Nat, (∀ i, g i < w) ∧ g 0 = 0 ∧ hV H g N = hV H f N := by
  obtain ⟨s, hs⟩ : ∃ s, f 0 = s := ⟨_, rfl⟩
  have hs3 : s < w := by rw [← hs]; exact hf 0
  refine ⟨fun i => if f i = s then 0 else if f i = 0 then s else f i, fun i => ?_, ?_, ?_⟩
  · have := hf i
    dsimp only
    split
    · omega
    · split <;> omega
  · dsimp only
    rw [if_pos hs]
  · have u := hV_or H f N
    have v := hV_or H (fun i => if f i = s then 0 else if f i = 0 then s else f i) N
    have q : s = 0 ∨ s = 1 ∨ s = 2 := by omega
    have key : ∀ c d : Nat, (∀ x : Nat, (if x = s then 0 else if x = 0 then s else x) = c ↔ x = d) → hL H (fun i => if f i = s then 0 else if f i = 0 then s else f i) c N = hL H f d N := fun c d hh => hL_map (fun i => hh (f i)) N
    clear hs
    rcases q with rfl | rfl | rfl
    · rw [key 0 0 (fun x => by split <;> (try split) <;> omega), key 1 1 (fun x => by split <;> (try split) <;> omega), key 2 2 (fun x => by split <;> (try split) <;> omega)] at v
      omega
    · rw [key 0 1 (fun x => by split <;> (try split) <;> omega), key 1 0 (fun x => by split <;> (try split) <;> omega), key 2 2 (fun x => by split <;> (try split) <;> omega)] at v
      omega
    · rw [key 0 2 (fun x => by split <;> (try split) <;> omega), key 1 1 (fun x => by split <;> (try split) <;> omega), key 2 0 (fun x => by split <;> (try split) <;> omega)] at v
      omega
/-- a number's digits, the last job's the last -/
noncomputable def fW (w : Nat) : Nat → Nat → Nat → Nat
  | 0, _, _ => 0
  | j + 1, q, i => if i = j then q % w else fW w j (q / w) i
theorem fW_on {w j q : Nat} : fW w (j + 1) q j = q % w := by rw [fW, if_pos rfl]
theorem fW_off {w j q i : Nat} (h : i < j) : fW w (j + 1) q i = fW w j (q / w) i := by rw [fW, if_neg (by omega)]
theorem fW_lt {w : Nat} (hw : 1 ≤ w) : ∀ j q i : Nat, fW w j q i < w
  | 0, _, _ => by rw [fW]; omega
  | j + 1, q, i => by
    rw [fW]
    split
    · exact Nat.mod_lt _ (by omega)
    · exact fW_lt hw j _ i
theorem fW_all {w : Nat} {f : Nat → Nat} (hf : ∀ i, f i < w) (h0 : f 0 = 0) : ∀ j : Nat, ∃ q : Nat, q < w ^ j ∧ ∀ i, i < j + 1 → fW w (j + 1) q i = f i
  | 0 => ⟨0, by rw [Nat.pow_zero]; omega, fun i hi => by
      have : i = 0 := by omega
      subst this
      rw [fW_on, h0, Nat.zero_mod]⟩
  | j + 1 => by
    obtain ⟨q, h1, h2⟩ := fW_all hf h0 j
    have hj := hf (j + 1)
    refine ⟨w * q + f (j + 1), ?_, fun i hi => ?_⟩
    · rw [Nat.pow_succ, Nat.mul_comm (w ^ j) w]
      have h3 : w * (q + 1) ≤ w * w ^ j := Nat.mul_le_mul_left w h1
      rw [Nat.mul_add, Nat.mul_one] at h3
      omega
    · by_cases e : i = j + 1
      · subst e
        rw [fW_on, Nat.mul_add_mod, Nat.mod_eq_of_lt hj]
      · rw [fW_off (by omega), Nat.mul_add_div (by omega), Nat.div_eq_of_lt hj, Nat.add_zero]
        exact h2 i (by omega)
theorem hmx3 {x : Int} {c0 : Nat} {G G2 : Nat → Int} (h3 : c0 < 3) (hG : ∀ c, G2 c = if c = c0 then x else G c) (hx : G c0 ≤ x) : hmx (G2 0) (hmx (G2 1) (G2 2)) = if hmx (G 0) (hmx (G 1) (G 2)) < x then x else hmx (G 0) (hmx (G 1) (G 2)) := by
  have u1 := hmx_or (G 1) (G 2)
  have u2 := hmx_or (G 0) (hmx (G 1) (G 2))
  have u3 := hmx_or (G2 1) (G2 2)
  have u4 := hmx_or (G2 0) (hmx (G2 1) (G2 2))
  have e0 := hG 0
  have e1 := hG 1
  have e2 := hG 2
  have q : c0 = 0 ∨ c0 = 1 ∨ c0 = 2 := by omega
  rcases q with rfl | rfl | rfl
  · rw [if_pos rfl] at e0
    rw [if_neg (by decide)] at e1 e2
    split <;> omega
  · rw [if_pos rfl] at e1
    rw [if_neg (by decide)] at e0 e2
    split <;> omega
  · rw [if_pos rfl] at e2
    rw [if_neg (by decide)] at e0 e1
    split <;> omega
section ZHiredX
variable {T : Nat → Nat → zG → (Option zA → zM → Prop) → Prop} {B : Int}
theorem z_endOfX (hT : zRules T) {D : Nat} {κ : Option zA → zM → Prop} {m : zM} {w q N : Nat} (hB : zB m) (hN : m 64 2 = (N : Int)) (hw : 1 ≤ w ∧ w ≤ 3) (hq : q ≤ 6561) (hk : ∀ M, zB M → zFr (inL [(68, none), (69, none)]) m M → κ (some (zi (hV (m 65) (fW w N q) N))) M) : T (D + 3) 105 (0, [(0, zr 64), (1, zi (q : Int)), (2, zi (w : Int))], [], m) κ := by
  have b64 : 0 ≤ m 64 2 ∧ m 64 2 ≤ 7 := hB 64 2
  have key : ∀ (j q : Nat) (b : Int) (M : zM), j ≤ 7 → q ≤ 6561 → zB M → zFr (inL [(68, none), (69, none)]) m M → (∀ c, c < 3 → 0 ≤ M 69 c ∧ M 69 c ≤ 20 * (7 - (j : Int))) → b = hmx (M 69 0) (hmx (M 69 1) (M 69 2)) → (∀ M2, zB M2 → zFr (inL [(68, none), (69, none)]) m M2 → κ (some (zi (hmx (M 69 0 + hL (m 65) (fW w j q) 0 j) (hmx (M 69 1 + hL (m 65) (fW w j q) 1 j) (M 69 2 + hL (m 65) (fW w j q) 2 j))))) M2) → T (D + 3) 105 (34, [(0, zr 64), (2, zi (w : Int)), (3, zi (q : Int)), (4, zi b), (5, zi ((j : Int) - 1))], [], M) κ := by
    intro j
    induction j with
    | zero =>
      intro q b M hj hq hBM hF hr hb hk2
      have r0 := hr 0 (by decide)
      have r1 := hr 1 (by decide)
      have r2 := hr 2 (by decide)
      have u1 := hmx_or (M 69 1) (M 69 2)
      have u2 := hmx_or (M 69 0) (hmx (M 69 1) (M 69 2))
      have hbI : isI b := by unfold isI; omega
      refine zb105_34 hT rfl hBM (by omega) hq hbI (by omega) (fun _ => ?_) (fun q => by omega) (fun q => by omega) (fun q => by omega) (fun q => by omega) (fun q => by omega) (fun q => by omega) (fun q => by omega)
      have h1 := hk2 M hBM hF
      simp only [hL, Int.add_zero] at h1
      rw [hb]
      exact h1
    | succ j ih =>
      intro q b M hj hq hBM hF hr hb hk2
      have r0 := hr 0 (by decide)
      have r1 := hr 1 (by decide)
      have r2 := hr 2 (by decide)
      have u1 := hmx_or (M 69 1) (M 69 2)
      have u2 := hmx_or (M 69 0) (hmx (M 69 1) (M 69 2))
      have hbI : isI b := by unfold isI; omega
      have em : Int.tmod (q : Int) (w : Int) = ((q % w : Nat) : Int) := rfl
      have ed : Int.tdiv (q : Int) (w : Int) = ((q / w : Nat) : Int) := rfl
      have hm : q % w < w := Nat.mod_lt _ (by omega)
      have hd : q / w ≤ q := Nat.div_le_self q w
      have e1 : wr (Int.tmod (q : Int) (w : Int)) = ((q % w : Nat) : Int) := by rw [em, wr_id (by omega) (by omega)]
      have ix : 0 ≤ wr (Int.tmod (q : Int) (w : Int)) ∧ wr (Int.tmod (q : Int) (w : Int)) < 3 := by
        rw [e1]
        omega
      have b65 : 0 ≤ m 65 j ∧ m 65 j ≤ 20 := hB 65 j
      have e65 : M 65 j = m 65 j := hF 65 j rfl
      have rc := hr (q % w) (by omega)
      have hxw : wr (M 69 (q % w) + M 65 j) = M 69 (q % w) + M 65 j := by rw [e65]; exact wr_id (by omega) (by omega)
      have e69 : ∀ (v : Int) (c : Nat), (zu (zu M 68 j v) 69 (q % w) (M 69 (q % w) + M 65 j)) 69 c = if c = q % w then M 69 (q % w) + M 65 j else M 69 c := fun v c => by
        rw [zu_at, zu_dn (by decide)]
      have go : ∀ (v b2 : Int), b2 = (if b < M 69 (q % w) + M 65 j then M 69 (q % w) + M 65 j else b) → zB (zu (zu M 68 j v) 69 (q % w) (M 69 (q % w) + M 65 j)) → T (D + 3) 105 (34, [(0, zr 64), (2, zi (w : Int)), (3, zi ((q / w : Nat) : Int)), (4, zi b2), (5, zi ((j : Int) - 1))], [], zu (zu M 68 j v) 69 (q % w) (M 69 (q % w) + M 65 j)) κ := by
        intro v b2 hb2 hz
        have h3 := hmx3 (G := M 69) (G2 := (zu (zu M 68 j v) 69 (q % w) (M 69 (q % w) + M 65 j)) 69) (by omega) (e69 v) (by omega)
        have ee : ∀ c, (zu (zu M 68 j v) 69 (q % w) (M 69 (q % w) + M 65 j)) 69 c + hL (m 65) (fW w j (q / w)) c j = M 69 c + hL (m 65) (fW w (j + 1) q) c (j + 1) := fun c => by
          have hc : hL (m 65) (fW w (j + 1) q) c j = hL (m 65) (fW w j (q / w)) c j := hL_congr j (fun i hi => fW_off hi)
          rw [e69]
          by_cases e : c = q % w
          · rw [if_pos e, hL_yes (fW_on.trans e.symm), hc, e, e65]
            omega
          · rw [if_neg e, hL_no (fun x => e (x.symm.trans fW_on)), hc]
        refine ih (q / w) b2 _ (by omega) (by omega) hz ((hF.set rfl).set rfl) (fun c hc => ?_) (by rw [hb2, hb]; exact h3.symm) (fun M2 hB2 hF2 => ?_)
        · rw [e69]
          have := hr c hc
          split <;> omega
        · have h1 := hk2 M2 hB2 hF2
          rw [← ee 0, ← ee 1, ← ee 2] at h1
          exact h1
      rw [show ((j + 1 : Nat) : Int) - 1 = (j : Int) by omega]
      refine zb105_34 hT rfl hBM (by omega) hq hbI (by omega) (fun q => by omega) (fun _ _ => ix) (fun _ _ => ix) (fun _ _ => ix) (fun _ _ q2 hz => ?_) (fun _ _ q2 hz => ?_) (fun _ q => by omega) (fun _ q => by omega)
      · rw [e1, Int.toNat_natCast, Int.toNat_natCast] at q2 hz ⊢
        rw [hxw] at q2 ⊢
        rw [ed]
        exact go _ _ (by rw [if_pos q2]) hz
      · rw [e1, Int.toNat_natCast, Int.toNat_natCast] at q2 hz ⊢
        rw [hxw] at q2
        rw [ed]
        exact go _ _ (by rw [if_neg q2]) hz
  refine zb105_0 hT hB (by omega) hq (fun hz => ?_)
  have x0 : (zu (zu (zu m 69 0 0) 69 1 0) 69 2 0) 69 0 = 0 := by rw [zu_off (by decide), zu_off (by decide), zu_sm rfl]
  have x1 : (zu (zu (zu m 69 0 0) 69 1 0) 69 2 0) 69 1 = 0 := by rw [zu_off (by decide), zu_sm rfl]
  have x2 : (zu (zu (zu m 69 0 0) 69 1 0) 69 2 0) 69 2 = 0 := zu_sm rfl
  rw [hN]
  refine key N q 0 _ (by omega) hq hz (((zFr.refl.set rfl).set rfl).set rfl) (fun c hc => ?_) (by rw [x0, x1, x2]; decide) (fun M2 hB2 hF2 => ?_)
  · have : c = 0 ∨ c = 1 ∨ c = 2 := by omega
    rcases this with rfl | rfl | rfl
    · rw [x0]; omega
    · rw [x1]; omega
    · rw [x2]; omega
  · rw [x0, x1, x2, Int.zero_add, Int.zero_add, Int.zero_add]
    exact hk M2 hB2 hF2
theorem z_shareX (hT : zRules T) {D : Nat} {κ : Option zA → zM → Prop} {m : zM} {w N : Nat} (hB : zB m) (hN : m 64 2 = (N : Int)) (hw : 1 ≤ w ∧ w ≤ 3) (hk : ∀ b M, zB M → zFr (inL [(67, none), (68, none), (69, none)]) m M → (0 ≤ b ∧ b ≤ 140) → (∃ f : Nat → Nat, (∀ i, f i < w) ∧ b = hV (m 65) f N) → (∀ f : Nat → Nat, (∀ i, f i < w) → f 0 = 0 → b ≤ hV (m 65) f N) → κ (some (zi b)) M) : T (D + 4) 104 (0, [(0, zr 64), (1, zi (w : Int))], [], m) κ := by
  have b64 : 0 ≤ m 64 2 ∧ m 64 2 ≤ 7 := hB 64 2
  have hH : ∀ j, 0 ≤ m 65 j ∧ m 65 j ≤ 20 := fun j => hB 65 j
  have hrV : ∀ f : Nat → Nat, 0 ≤ hV (m 65) f N ∧ hV (m 65) f N ≤ 140 := fun f => by
    have := hV_rng (f := f) (k := N) hH
    omega
  have w1 : 1 ≤ w ^ (N - 1) := Nat.one_le_pow _ _ (by omega)
  have all : ∀ (j q a : Nat) (b : Int) (M : zM), a = w ^ (N - 1) → q + j = a → a ≤ 6561 → ((b = -1 ∧ q = 0) ∨ ((∃ q0, b = hV (m 65) (fW w N q0) N) ∧ ∀ q1, q1 < q → b ≤ hV (m 65) (fW w N q1) N)) → zB M → zFr (inL [(67, none), (68, none), (69, none)]) m M → T (D + 4) 104 (27, [(0, zr 64), (1, zi (w : Int)), (2, zi (a : Int)), (3, zi b), (4, zi (q : Int))], [], M) κ := by
    intro j
    induction j with
    | zero =>
      intro q a b M ha hqa ha2 hb hBM hF
      have hb2 : (∃ q0, b = hV (m 65) (fW w N q0) N) ∧ ∀ q1, q1 < q → b ≤ hV (m 65) (fW w N q1) N := by
        rcases hb with h | h
        · omega
        · exact h
      obtain ⟨⟨q0, h0⟩, h1⟩ := hb2
      have hr := hrV (fW w N q0)
      rw [← h0] at hr
      refine zb104_27 hT rfl hBM (by omega) ha2 (by omega) (by omega) (fun _ => hk b M hBM hF hr ⟨fW w N q0, fW_lt hw.1 N q0, h0⟩ (fun f hf hf0 => ?_)) (fun x => by omega)
      rcases Nat.eq_zero_or_pos N with e | e
      · have h2 := h1 0 (by omega)
        rw [hV_congr (f := f) (fun j hj => by omega)] at h2
        exact h2
      · obtain ⟨N1, rfl⟩ : ∃ N1, N = N1 + 1 := ⟨N - 1, by omega⟩
        obtain ⟨q2, h3, h4⟩ := fW_all hf hf0 N1
        rw [Nat.add_sub_cancel] at ha
        have h2 := h1 q2 (by omega)
        rw [hV_congr h4] at h2
        exact h2
    | succ j ih =>
      intro q a b M ha hqa ha2 hb hBM hF
      have hbI : isI b := by
        rcases hb with h | ⟨⟨q0, h⟩, _⟩
        · unfold isI; omega
        · have := hrV (fW w N q0)
          unfold isI; omega
      have e65 : M 65 = m 65 := funext fun j => hF 65 j rfl
      refine zb104_27 hT rfl hBM (by omega) ha2 hbI (by omega) (fun x => by omega) (fun _ => ?_)
      refine z_endOfX (N := N) hT hBM ((hF 64 2 rfl).trans hN) hw (by omega) (fun M1 hB1 hF1 => ?_)
      rw [e65]
      have hr := hrV (fW w N q)
      have hFa : zFr (inL [(67, none), (68, none), (69, none)]) m M1 := hF.trans (hF1.sub (inL_sub (by decide)))
      have nw : (b = -1 ∨ hV (m 65) (fW w N q) N < b) → (hV (m 65) (fW w N q) N = -1 ∧ q + 1 = 0) ∨ ((∃ q0, hV (m 65) (fW w N q) N = hV (m 65) (fW w N q0) N) ∧ ∀ q1, q1 < q + 1 → hV (m 65) (fW w N q) N ≤ hV (m 65) (fW w N q1) N) := fun hx => Or.inr ⟨⟨q, rfl⟩, fun q1 hq1 => by
        by_cases e : q1 = q
        · rw [e]; exact Int.le_refl _
        · rcases hb with h | ⟨⟨q0, h0⟩, h⟩
          · omega
          · have h2 := h q1 (by omega)
            have h3 := hrV (fW w N q0)
            omega⟩
      refine zb104_40 hT rfl hB1 (by omega) ha2 hbI (by omega) (by omega) (fun hx hz => ?_) (fun hx hy => ?_) (fun hx hy hz => ?_)
      · exact ih (q + 1) a _ _ ha (by omega) ha2 (nw (Or.inl hx)) hz (hFa.cp (fun _ => rfl))
      · refine ih (q + 1) a b M1 ha (by omega) ha2 ?_ hB1 hFa
        rcases hb with h | ⟨h0, h⟩
        · exact absurd h.1 hx
        · refine Or.inr ⟨h0, fun q1 hq1 => ?_⟩
          by_cases e : q1 = q
          · rw [e]; omega
          · exact h q1 (by omega)
      · exact ih (q + 1) a _ _ ha (by omega) ha2 (nw (Or.inr hy)) hz (hFa.cp (fun _ => rfl))
  have pw : ∀ (j t a : Nat), t + j = 7 → 1 ≤ t → (t ≤ N ∨ t = 1) → a = w ^ (t - 1) → T (D + 4) 104 (4, [(0, zr 64), (1, zi (w : Int)), (2, zi (a : Int)), (3, zi (t : Int))], [], m) κ := by
    intro j
    induction j with
    | zero =>
      intro t a ht h1 hN1 ha
      have et : t = 7 := by omega
      subst et
      have ha2 : a ≤ 729 := by rw [ha]; exact Nat.le_trans (Nat.pow_le_pow_left hw.2 6) (by decide)
      have e7 : 7 - 1 = N - 1 := by omega
      exact zb104_4 hT rfl hB (by omega) (by omega) (by omega) (fun _ => all a 0 a (-1) m (by rw [ha, e7]) (by omega) (by omega) (Or.inl ⟨rfl, rfl⟩) hB zFr.refl) (fun q => by omega)
    | succ j ih =>
      intro t a ht h1 hN1 ha
      have ha2 : a ≤ 729 := by rw [ha]; exact Nat.le_trans (Nat.pow_le_pow_left hw.2 (t - 1)) (Nat.le_trans (Nat.pow_le_pow_right (by omega) (show t - 1 ≤ 6 by omega)) (by decide))
      refine zb104_4 hT rfl hB (by omega) (by omega) (by omega) (fun q => ?_) (fun q => ?_)
      · have e7 : t - 1 = N - 1 := by omega
        exact all a 0 a (-1) m (by rw [ha, e7]) (by omega) (by omega) (Or.inl ⟨rfl, rfl⟩) hB zFr.refl
      · rw [show (a : Int) * (w : Int) = ((a * w : Nat) : Int) from (Int.natCast_mul a w).symm]
        refine ih (t + 1) (a * w) (by omega) (by omega) (Or.inl (by omega)) ?_
        rw [show t + 1 - 1 = (t - 1) + 1 by omega, Nat.pow_succ, ha]
  exact zb104_0 hT hB (by omega) (pw 6 1 1 (by omega) (by omega) (Or.inr rfl) (by rw [Nat.sub_self, Nat.pow_zero]))
noncomputable def gxL : zLs := [(74, some 61), (104, none), (105, none)]
theorem z_goHiredX (hT : zRules T) {N w : Nat} {H : Nat → Int} (hN7 : N ≤ 7) (hw : 1 ≤ w ∧ w ≤ 3) (hH : ∀ j, 0 ≤ H j ∧ H j ≤ 20) : ∀ (j : Nat) (D : Nat) (κ : Option zA → zM → Prop) (m : zM) (k : Nat) (f : Nat → Nat) (t : Int), t = hV H f k → zB m → m 74 54 = (N : Int) → (∀ i, i < N → m 100 (2 * i) = H i) → k + j = N → (∀ i, f i < w) → (∀ c, c < 3 → m 103 c = hL H f c k) → (0 ≤ m 74 61 ∧ m 74 61 ≤ 100000000) →
    (∀ M, zB M → zFr (inL gxL) m M → M 74 61 ≤ m 74 61 → (M 74 61 = m 74 61 ∨ ∃ g : Nat → Nat, (∀ i, g i < w) ∧ M 74 61 = hV H g N) → (∀ g : Nat → Nat, (∀ i, g i < w) → (∀ i, i < k → g i = f i) → M 74 61 ≤ hV H g N) → κ none M) →
    T (D + j + 1) 284 (0, [(0, zr 74), (1, zi (k : Int)), (2, zi (w : Int)), (3, zi t)], [], m) κ := by
  intro j
  induction j with
  | zero =>
    intro D κ m k f t ht hB hN h100 hkj hf h103 hr hk
    have hkN : k = N := by omega
    subst hkN
    have rV := hV_rng (f := f) (k := k) hH
    have ew : wr (m 74 61) = m 74 61 := wr_id (by omega) (by omega)
    refine zb284_0 (D := D) hT hB (by omega) (by omega) (by omega) (fun _ q => by omega) (fun hlt _ hz => ?_) (fun hge => ?_)
    · rw [ew] at hlt
      have key : ∀ (i c : Nat) (M : zM), c + i = k → zB M → zFr (inL gxL) m M → M 74 61 = t → T (D + 1) 284 (25, [(0, zr 74), (4, zi (c : Int))], [], M) κ := by
        intro i
        induction i with
        | zero =>
          intro c M hc hBM hF h61
          have e54 : M 74 54 = (k : Int) := (hF 74 54 rfl).trans hN
          refine zb284_25 (D := D) hT rfl hBM (by omega) (fun _ => hk M hBM hF (by omega) (Or.inr ⟨f, hf, by omega⟩) (fun g hg hgf => ?_)) (fun q => by omega)
          rw [hV_congr hgf]
          omega
        | succ i ih =>
          intro c M hc hBM hF h61
          have e54 : M 74 54 = (k : Int) := (hF 74 54 rfl).trans hN
          exact zb284_25 (D := D) hT rfl hBM (by omega) (fun q => by omega) (fun _ hz2 => ih (c + 1) _ (by omega) hz2 (hF.set rfl) (by rw [zu_dn (by decide)]; exact h61))
      exact key k 0 _ (by omega) hz (zFr.refl.set rfl) (zu_sm rfl)
    · rw [ew] at hge
      refine hk m hB zFr.refl (Int.le_refl _) (Or.inl rfl) (fun g hg hgf => ?_)
      rw [hV_congr hgf]
      omega
  | succ j ih =>
    intro D κ m k f t ht hB hN h100 hkj hf h103 hr hk
    have rV := hV_rng (f := f) (k := k) hH
    have ew : wr (m 74 61) = m 74 61 := wr_id (by omega) (by omega)
    have loop : ∀ (i c : Nat) (M : zM), c + i = w → zB M → zFr (inL gxL) m M → M 74 61 ≤ m 74 61 → (M 74 61 = m 74 61 ∨ ∃ g : Nat → Nat, (∀ i, g i < w) ∧ M 74 61 = hV H g N) → (∀ g : Nat → Nat, (∀ i, g i < w) → (∀ i, i < k → g i = f i) → g k < c → M 74 61 ≤ hV H g N) → T (D + (j + 1) + 1) 284 (58, [(0, zr 74), (1, zi (k : Int)), (2, zi (w : Int)), (3, zi t), (4, zi (c : Int))], [], M) κ := by
      intro i
      induction i with
      | zero =>
        intro c M hc hBM hF h1 h2 h3
        exact zb284_58 (D := D + j + 1) hT rfl hBM (by omega) (by omega) (by omega) (by omega) (fun _ => hk M hBM hF h1 h2 (fun g hg hgf => h3 g hg hgf (by have := hg k; omega))) (fun q => by omega) (fun q => by omega)
      | succ i ih2 =>
        intro c M hc hBM hF h1 h2 h3
        have e54 : M 74 54 = (N : Int) := (hF 74 54 rfl).trans hN
        have eH : M 100 (2 * k) = H k := (hF 100 (2 * k) rfl).trans (h100 k (by omega))
        have eB : M 103 c = hL H f c k := (hF 103 c rfl).trans (h103 c (by omega))
        have r103 := hL_rng (f := f) (c := c) hH k
        have rH := hH k
        have exw : wr (M 103 c + M 100 (2 * k)) = M 103 c + M 100 (2 * k) := wr_id (by omega) (by omega)
        have r61 : 0 ≤ M 74 61 ∧ M 74 61 ≤ 100000000 := by
          refine ⟨?_, by omega⟩
          rcases h2 with h2 | ⟨g, _, h2⟩
          · omega
          · have := hV_rng (f := g) (k := N) hH
            omega
        obtain ⟨F, eF⟩ : ∃ F : Nat → Nat, ∀ i, F i = if i = k then c else f i := ⟨fun i => if i = k then c else f i, fun _ => rfl⟩
        have hf2 : ∀ i, F i < w := fun i => by
          rw [eF]
          have := hf i
          split <;> omega
        have cg : ∀ i, i < k → F i = f i := fun i hi => by rw [eF, if_neg (by omega)]
        have on : F k = c := by rw [eF, if_pos rfl]
        have st := hV_step (f := F) (k := k) hH on (by omega)
        rw [hV_congr cg, hL_congr k cg, ← eB, ← eH, ← ht] at st
        have go : ∀ t2 : Int, t2 = hV H F (k + 1) → zB (zu (zu M 104 k (c : Int)) 103 c ((M 103 c) + (M 100 (2 * k)))) → T (D + j + 1) 284 (0, [(0, zr 74), (1, zi ((k : Int) + 1)), (2, zi (w : Int)), (3, zi t2)], [], (zu (zu M 104 k (c : Int)) 103 c ((M 103 c) + (M 100 (2 * k))))) (fun r m1 => T (D + (j + 1) + 1) 284 (109, [(0, zr 74), (1, zi (k : Int)), (2, zi (w : Int)), (3, zi t), (4, zi (c : Int))], r.toList ++ [], m1) κ) := by
          intro t2 ht2 hz
          refine ih D _ _ (k + 1) F t2 ht2 hz (by rw [zu_dn (by decide), zu_dn (by decide), e54]) (fun i hi => ?_) (by omega) hf2 (fun c2 hc2 => ?_) (by rw [zu_dn (by decide), zu_dn (by decide)]; exact r61) (fun M2 hB2 hF2 g1 g2 g3 => ?_)
          · rw [zu_dn (by decide), zu_dn (by decide), hF 100 (2 * i) rfl]
            exact h100 i hi
          · rw [zu_at, zu_dn (by decide)]
            by_cases e : c2 = c
            · rw [if_pos e, e, hL_yes on, hL_congr k cg, eB, eH]
            · rw [if_neg e, hL_no (fun x => e (x.symm.trans on)), hL_congr k cg, hF 103 c2 rfl]
              exact h103 c2 hc2
          · rw [zu_dn (by decide), zu_dn (by decide)] at g1 g2
            refine zb284_109 (D := D + j + 1) hT rfl hB2 (by omega) (by omega) (by omega) (by omega) (fun hz2 => ?_)
            refine ih2 (c + 1) _ (by omega) hz2 (fun c' j' hcj => ?_) (by rw [zu_dn (by decide)]; omega) ?_ (fun g hg hgf hgk => ?_)
            · have hM2 : ∀ c' j', inL gxL c' j' = false → ¬ (c' = 103 ∧ j' = c) → M2 c' j' = m c' j' := fun c' j' x y => by
                rw [hF2 c' j' x]
                by_cases e : c' = 103
                · subst e
                  rw [zu_off (fun z => y ⟨rfl, z⟩), zu_dn (by decide)]
                  exact hF 103 j' x
                · rw [zu_dn e]
                  by_cases e4 : c' = 104
                  · subst e4
                    cases x
                  · rw [zu_dn e4]
                    exact hF c' j' x
              by_cases e : c' = 103
              · subst e
                by_cases ej : j' = c
                · subst ej
                  rw [zu_sm rfl, hF2 103 j' rfl, zu_sm rfl, hF2 100 (2 * k) rfl, zu_dn (by decide), zu_dn (by decide), hF 103 j' rfl]
                  omega
                · rw [zu_off ej]
                  exact hM2 103 j' hcj (fun z => ej z.2)
              · rw [zu_dn e]
                exact hM2 c' j' hcj (fun z => e z.1)
            · rw [zu_dn (by decide)]
              rcases g2 with g2 | g2
              · rcases h2 with h2 | ⟨g, hg, h2⟩
                · exact Or.inl (g2.trans h2)
                · exact Or.inr ⟨g, hg, g2.trans h2⟩
              · exact Or.inr g2
            · rw [zu_dn (by decide)]
              by_cases e : g k = c
              · refine g3 g hg (fun i hi => ?_)
                by_cases ei : i = k
                · rw [ei, on, e]
                · rw [cg i (by omega)]
                  exact hgf i (by omega)
              · have := h3 g hg hgf (by omega)
                omega
        exact zb284_58 (D := D + j + 1) hT rfl hBM (by omega) (by omega) (by omega) (by omega) (fun q => by omega) (fun _ q2 hz => go _ (by rw [exw] at q2 ⊢; rw [st, if_pos q2]) hz) (fun _ q2 hz => go t (by rw [exw] at q2; rw [st, if_neg q2]) hz)
    refine zb284_0 (D := D + j + 1) hT hB (by omega) (by omega) (by omega) (fun hlt _ => ?_) (fun _ q => by omega) (fun hge => ?_)
    · exact loop w 0 m (by omega) hB zFr.refl (Int.le_refl _) (Or.inl rfl) (fun g hg hgf hgk => absurd hgk (Nat.not_lt_zero _))
    · rw [ew] at hge
      refine hk m hB zFr.refl (Int.le_refl _) (Or.inl rfl) (fun g hg hgf => ?_)
      have h4 := hV_le (f := g) hH k (j + 1)
      rw [hV_congr hgf, show k + (j + 1) = N by omega] at h4
      omega
theorem w_hired (hT : zRules T) {v : Int} (hv : isI v) : Way T 157 285 [(0, zr 1), (1, zi v)] [(0, zr 74), (1, zi v)] 5 9 B B True := by
  rintro D m sc ⟨n, k, hI⟩ κ hκ
  have hI0 := hI
  obtain ⟨i1, i2, i3, i4, i5, i6, i7, i8, i9, i10, i11⟩ := hI
  have b64 : 0 ≤ m 64 2 ∧ m 64 2 ≤ 7 := i1 64 2
  have hH : ∀ j, 0 ≤ m 65 j ∧ m 65 j ≤ 20 := fun j => i1 65 j
  obtain ⟨N, hN⟩ : ∃ N : Nat, m 64 2 = (N : Int) := ⟨(m 64 2).toNat, by omega⟩
  have t12 : ∀ M0 : zM, Agree coreK0 m M0 → Agree coreK0 m (zu M0 74 12 0) := fun M0 hA0 => hA0.trans (.of (L := [(74, some 12)]) (zFr.refl.set rfl) rfl)
  have no : (v < 1 ∨ 3 < v) → ∀ (M0 : zM), zB M0 → Agree coreK m M0 → κ (some (zi (-1))) M0 := by
    intro hb M0 hB0 hA0
    refine hκ _ _ (fun D2 κ2 h2 => ?_)
    refine zb285_0 (D := D2 + 7) hT hB0 hv (fun _ hz => h2 _ _ (fun _ => rfl) ⟨n, k, Inv_fr (hA0.trans (.of (L := [(74, some 12)]) (zFr.refl.set rfl) rfl)) hz hI0⟩) (fun _ _ hz => h2 _ _ (fun _ => rfl) ⟨n, k, Inv_fr (hA0.trans (.of (L := [(74, some 12)]) (zFr.refl.set rfl) rfl)) hz hI0⟩) (fun q1 q2 hz => by omega)
  refine zb157_0 hT i1 hv (fun q => no (Or.inl q) _ i1 (fun _ _ _ => rfl)) (fun q1 q2 => ?_) (fun _ q => no (Or.inr q) _ i1 (fun _ _ _ => rfl))
  obtain ⟨w, rfl⟩ : ∃ w : Nat, v = (w : Int) := ⟨v.toNat, by omega⟩
  refine z_shareX (N := N) hT i1 hN (by omega) (fun r M hBM hF hr hex hall => ?_)
  have ref : ∀ (M0 : zM), zB M0 → Agree coreK0 m M0 → M0 72 1 = (N : Int) → κ (some (zi r)) M0 := by
    intro M0 hB0 hA0 h72
    refine hκ _ _ (fun D2 κ2 h2 => ?_)
    refine zb285_0 (D := D2 + 7) hT hB0 hv (fun _ hz => by omega) (fun _ _ hz => by omega) (fun _ _ hz => ?_)
    have hA1 : Agree coreK0 m (zu (zu M0 74 12 0) 74 61 100000000) := (t12 M0 hA0).trans (.of (L := [(74, some 61)]) (zFr.refl.set rfl) rfl)
    have e54 : (zu (zu M0 74 12 0) 74 61 100000000) 74 54 = (N : Int) := by rw [hA1 74 54 rfl, i9.1, hN]
    have e61 : (zu (zu M0 74 12 0) 74 61 100000000) 74 61 = 100000000 := zu_sm rfl
    have hgo := z_goHiredX (N := N) (w := w) (H := m 65) hT (by omega) (by omega) hH N (D2 + (7 - N)) (fun r m1 => T (D2 + 7 + 2) 285 (30, [(0, zr 74), (1, zi (w : Int))], r.toList ++ [], m1) κ2) _ 0 (fun _ => 0) 0 (show (0 : Int) = hmx 0 (hmx 0 0) by decide) hz e54 (fun i hi => by
      rw [hA1 100 _ rfl]
      exact (i9.2 i (by omega)).1) (by omega) (fun _ => by show 0 < w; omega) (fun c hc => by
      rw [hA1 103 c rfl, i11.2.2.1 c hc]
      rfl) (by omega)
    rw [show D2 + (7 - N) + N + 1 = D2 + 7 + 1 by omega] at hgo
    refine hgo (fun M hBM hF h1 h2' h3 => ?_)
    have eq : M 74 61 = r := by
      rw [e61] at h2'
      obtain ⟨f, hf, hfr⟩ := hex
      have a1 := h3 f hf (fun i hi => absurd hi (Nat.not_lt_zero _))
      rcases h2' with x | ⟨g, hg, x⟩
      · omega
      · obtain ⟨g2, y1, y2, y3⟩ := hV_swap (H := m 65) N (by omega) hg
        have a2 := hall g2 y1 y2
        omega
    have hA2 : Agree coreK0 m M := hA1.trans (.of hF rfl)
    have x72 : M 72 1 = (N : Int) := by rw [hF 72 1 rfl, zu_dn (by decide), zu_dn (by decide), h72]
    refine zb285_30 (D := D2 + 7) hT rfl hBM (fun hz2 => ?_)
    have loop : ∀ (i c : Nat) (M2 : zM), c + i = N → zB M2 → M2 74 11 = (c : Int) → M2 74 61 = r → Agree coreK0 m M2 → M2 72 1 = (N : Int) → T (D2 + 7 + 2) 285 (37, [(0, zr 74), (2, zi (c : Int))], [], M2) κ2 := by
      intro i
      induction i with
      | zero =>
        intro c M2 hc hB2 h11 h61 hA3 g72
        have e54 : M2 74 54 = (N : Int) := by rw [hA3 74 54 rfl, i9.1, hN]
        refine zb285_37 (D := D2 + 7) hT rfl hB2 (by omega) (fun _ => ?_) (fun q => by omega) (fun q => by omega)
        rw [h61, wr_id (by omega) (by omega)]
        exact h2 _ _ (fun _ => rfl) ⟨n, k, Inv_row hA3 hB2 (RowP.len (by rw [g72, h11]; omega)) hI0⟩
      | succ i ih =>
        intro c M2 hc hB2 h11 h61 hA3 g72
        have e54 : M2 74 54 = (N : Int) := by rw [hA3 74 54 rfl, i9.1, hN]
        refine zb285_37 (D := D2 + 7) hT rfl hB2 (by omega) (fun q => by omega) (fun _ => by omega) (fun _ => ?_)
        refine ih (c + 1) _ (by omega) (zB_u (zB_u hB2 trivial) ?_) (by rw [zu_sm rfl, h11]; omega) (by rw [zu_off (by decide), zu_dn (by decide)]; exact h61) (hA3.trans (.of (L := [(74, some 11), (81, none)]) ((zFr.refl.set rfl).set rfl) rfl)) (by rw [zu_dn (by decide), zu_dn (by decide)]; exact g72)
        show 0 ≤ M2 74 11 + 1 ∧ M2 74 11 + 1 ≤ 32
        omega
    exact loop N 0 _ (by omega) hz2 (by rw [zu_sm rfl]; rfl) (by rw [zu_off (by decide)]; exact eq) (hA2.trans (.of (L := [(74, some 11)]) (zFr.refl.set rfl) rfl)) (by rw [zu_dn (by decide)]; exact x72)
  have hri : isI r := by unfold isI; omega
  refine zb157_20 hT rfl hBM hri ?_
  rw [hF 64 2 rfl, hN]
  have hA : Agree coreK m M := .of hF rfl
  refine zb48_0_67 (D := D + 2) hT hBM (by omega) (fun _ hz => ?_) (fun q0 hz => ?_)
  · exact zb157_42 hT rfl hri (ref _ hz (hA.w0.trans (.of (L := [(72, some 1), (73, none)]) ((zFr.refl.set rfl).cp (fun _ => rfl)) rfl)) (by rw [z_cp_dn (by decide), zu_sm rfl] <;> omega))
  · exact zb157_42 hT rfl hri (ref _ hz (hA.w0.trans (.of (L := [(72, some 1), (73, none)]) ((zFr.refl.set rfl).cp (fun _ => rfl)) rfl)) (by rw [z_cp_dn (by decide), zu_sm rfl] <;> omega))
end ZHiredX
