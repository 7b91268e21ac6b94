/-! trunk(): how many inches, by both: which are chosen, one behind the other. -/
/-- the fewest that serve the laws from v on -/
noncomputable def CF (L : Nat → Int) (N : Nat) (h v : Int) : Nat := pkv L N h N (nxv L v N)
theorem few_wA {A : Int → Prop} {L : Nat → Int} {N v0 : Nat} {h : Int} (hh : 0 ≤ h) (hL : ∀ k, k < N → 0 ≤ L k ∧ L k ≤ 99) (hA : ∀ x : Nat, v0 ≤ x → (A (x : Int) ↔ ∃ k : Nat, k < N ∧ L k = (x : Int))) : ∀ (j v : Nat), v0 ≤ v → v ≤ 100 → cge L (v : Int) N ≤ j → (y_w A h v).2 < (v : Int) → (y_w A h 100).1 = (y_w A h v).1 + (pkv L N h j (nxv L (v : Int) N) : Nat) := by
  intro j
  induction j with
  | zero =>
    intro v h0 hv hc hl
    have e := y_wK (A := A) (m := h) (a := v) (100 - v) (fun x h1 h2 => fun ⟨q, _⟩ => by
      obtain ⟨k, k1, k2⟩ := (hA x (by omega)).mp q
      have := cge_lt (L := L) (v := (v : Int)) (u := 100) (by omega) N ⟨k, k1, by omega, by have := (hL k k1).2; omega⟩
      omega)
    rw [show v + (100 - v) = 100 by omega] at e
    rw [e, pkv]
    omega
  | succ j ih =>
    intro v h0 hv hc hl
    rcases nxv_ok (L := L) (v := (v : Int)) N (fun k hk => (hL k hk).1) with ⟨e1, i1⟩ | ⟨i0, i1, ⟨k, k1, k2⟩, i2⟩
    · have e := y_wK (A := A) (m := h) (a := v) (100 - v) (fun x h1 h2 => fun ⟨q, _⟩ => by
        obtain ⟨k, k1, k2⟩ := (hA x (by omega)).mp q
        have := i1 k k1
        omega)
      rw [show v + (100 - v) = 100 by omega] at e
      rw [e, e1, pkv_none]
      omega
    · generalize nxv L (v : Int) N = w at i0 i1 k2 i2 ⊢
      obtain ⟨w, rfl⟩ : ∃ q : Nat, w = (q : Int) := ⟨w.toNat, by omega⟩
      have hw := (hL k k1).2
      have eK := y_wK (A := A) (m := h) (a := v) (w - v) (fun x h1 h2 => fun ⟨q, _⟩ => by
        obtain ⟨q, q1, q2⟩ := (hA x (by omega)).mp q
        have := i2 q q1 (by omega)
        omega)
      rw [show v + (w - v) = w by omega] at eK
      have eP : y_w A h (w + 1) = ((y_w A h v).1 + 1, (w : Int) + h) := by
        rcases y_wS A h w with ⟨-, e⟩ | ⟨q, -⟩
        · rw [e, eK]
        · rw [eK] at q
          exact absurd ⟨(hA w (by omega)).mpr ⟨k, k1, k2⟩, fun x => by omega⟩ q
      rw [pkv, if_neg (by omega)]
      obtain ⟨hn, rfl⟩ : ∃ q : Nat, h = (q : Int) := ⟨h.toNat, by omega⟩
      by_cases q : w + hn + 1 ≤ 100
      · have eC := y_wK (A := A) (m := (hn : Int)) (a := w + 1) hn (fun x h1 h2 => fun ⟨_, q2⟩ => q2 (by
          rw [eP]
          exact ⟨by show (x : Int) ≤ (w : Int) + hn; omega, by show (w : Int) + hn ≤ (x : Int) + hn; omega⟩))
        rw [show w + 1 + hn = w + hn + 1 by omega] at eC
        have hlt := cge_lt (L := L) (v := (v : Int)) (u := ((w + hn + 1 : Nat) : Int)) (by omega) N ⟨k, k1, by omega, by omega⟩
        have := ih (w + hn + 1) (by omega) q (by omega) (by rw [eC, eP]; show (w : Int) + hn < _; omega)
        rw [eC, eP] at this
        rw [this, show ((w + hn + 1 : Nat) : Int) = (w : Int) + hn + 1 by omega]
        show (y_w A (hn : Int) v).1 + 1 + _ = _
        omega
      · have eC := y_wK (A := A) (m := (hn : Int)) (a := w + 1) (100 - (w + 1)) (fun x h1 h2 => fun ⟨_, q2⟩ => q2 (by
          rw [eP]
          exact ⟨by show (x : Int) ≤ (w : Int) + hn; omega, by show (w : Int) + hn ≤ (x : Int) + hn; omega⟩))
        rw [show w + 1 + (100 - (w + 1)) = 100 by omega] at eC
        have e1 : nxv L ((w : Int) + hn + 1) N = -1 := by
          rcases nxv_ok (L := L) (v := (w : Int) + hn + 1) N (fun k hk => (hL k hk).1) with ⟨e1, -⟩ | ⟨-, x1, ⟨k3, x2, x3⟩, -⟩
          · exact e1
          · have := (hL k3 x2).2
            omega
        rw [eC, eP, e1, pkv_none]
        show (y_w A (hn : Int) v).1 + 1 = _
        omega
theorem pkv_le {L : Nat → Int} {N : Nat} {h : Int} : ∀ (j : Nat) (w : Int), pkv L N h j w ≤ j
  | 0, _ => Nat.le_refl 0
  | j + 1, w => by
    have := pkv_le (L := L) (N := N) (h := h) j (nxv L (w + h + 1) N)
    rw [pkv]
    split <;> omega
section ZChosen
variable {L : Nat → Int} {N : Nat} {h : Int}
theorem pkv_fuel (hh : 0 ≤ h) (hL : ∀ k, k < N → 0 ≤ L k ∧ L k ≤ 99) : ∀ (j j2 : Nat) (v : Int), cge L v N ≤ j → cge L v N ≤ j2 → pkv L N h j (nxv L v N) = pkv L N h j2 (nxv L v N) := by
  intro j
  induction j with
  | zero =>
    intro j2 v h1 h2
    rcases nxv_ok (L := L) (v := v) N (fun k hk => (hL k hk).1) with ⟨e1, i1⟩ | ⟨i0, i1, ⟨k, k1, k2⟩, i2⟩
    · rw [e1, pkv_none, pkv_none]
    · have := cge_lt (L := L) (v := v) (u := 100) (by have := (hL k k1).2; omega) N ⟨k, k1, by omega, by have := (hL k k1).2; omega⟩
      omega
  | succ j ih =>
    intro j2 v h1 h2
    rcases nxv_ok (L := L) (v := v) N (fun k hk => (hL k hk).1) with ⟨e1, i1⟩ | ⟨i0, i1, ⟨k, k1, k2⟩, i2⟩
    · rw [e1, pkv_none, pkv_none]
    · have hlt := cge_lt (L := L) (v := v) (u := nxv L v N + h + 1) (by omega) N ⟨k, k1, by omega, by omega⟩
      obtain ⟨j3, rfl⟩ : ∃ j3, j2 = j3 + 1 := ⟨j2 - 1, by omega⟩
      rw [pkv, pkv, if_neg (by omega), if_neg (by omega), ih j3 _ (by omega) (by omega)]
theorem CF_step (hh : 0 ≤ h) (hL : ∀ k, k < N → 0 ≤ L k ∧ L k ≤ 99) {v : Int} (hs : 0 ≤ nxv L v N) : CF L N h v = CF L N h (nxv L v N + h + 1) + 1 := by
  rcases nxv_ok (L := L) (v := v) N (fun k hk => (hL k hk).1) with ⟨e1, i1⟩ | ⟨i0, i1, ⟨k, k1, k2⟩, i2⟩
  · omega
  · have hlt := cge_lt (L := L) (v := v) (u := nxv L v N + h + 1) (by omega) N ⟨k, k1, by omega, by omega⟩
    have hle := cge_le (L := L) (v := v) N
    unfold CF
    obtain ⟨N1, hN1⟩ : ∃ N1, N = N1 + 1 := ⟨N - 1, by omega⟩
    have e : pkv L N h (N1 + 1) (nxv L v N) = pkv L N h N1 (nxv L (nxv L v N + h + 1) N) + 1 := by rw [pkv, if_neg (by omega)]
    rw [← hN1] at e
    rw [e, pkv_fuel hh hL N1 N _ (by omega) (by omega)]
theorem CF_none {v : Int} (hs : nxv L v N = -1) : CF L N h v = 0 := by
  unfold CF
  rw [hs, pkv_none]
theorem pkv_anti (hh : 0 ≤ h) (hL : ∀ k, k < N → 0 ≤ L k ∧ L k ≤ 99) : ∀ (j : Nat) (v u : Int), v ≤ u → pkv L N h j (nxv L u N) ≤ pkv L N h j (nxv L v N) := by
  intro j
  induction j with
  | zero => exact fun _ _ _ => Nat.le_refl 0
  | succ j ih =>
    intro v u hvu
    rcases nxv_ok (L := L) (v := u) N (fun k hk => (hL k hk).1) with ⟨e1, -⟩ | ⟨i0, i1, ⟨k, k1, k2⟩, -⟩
    · rw [e1, pkv_none]
      exact Nat.zero_le _
    · rcases nxv_ok (L := L) (v := v) N (fun k hk => (hL k hk).1) with ⟨-, x1⟩ | ⟨x0, -, -, x2⟩
      · have := x1 k k1
        omega
      · have h1 := x2 k k1 (by omega)
        have h2 := ih (nxv L v N + h + 1) (nxv L u N + h + 1) (by omega)
        rw [pkv, pkv, if_neg (by omega), if_neg (by omega)]
        omega
theorem CF_anti (hh : 0 ≤ h) (hL : ∀ k, k < N → 0 ≤ L k ∧ L k ≤ 99) {v u : Int} (hvu : v ≤ u) : CF L N h u ≤ CF L N h v := pkv_anti hh hL N v u hvu
/-- the first from b on, at most d on, behind which no more than r are wanted -/
noncomputable def stF (L : Nat → Int) (N : Nat) (h : Int) (r : Nat) : Nat → Int → Int
  | 0, b => b
  | d + 1, b => if CF L N h (b + 1) ≤ r then b else stF L N h r d (b + 1)
theorem stF_spec {r : Nat} : ∀ (d : Nat) (b : Int), CF L N h (b + (d : Int) + 1) ≤ r → b ≤ stF L N h r d b ∧ stF L N h r d b ≤ b + d ∧ CF L N h (stF L N h r d b + 1) ≤ r ∧ ∀ x, b ≤ x → x < stF L N h r d b → r < CF L N h (x + 1)
  | 0, b, hd => by
    rw [stF]
    refine ⟨Int.le_refl _, by omega, ?_, fun x h1 h2 => by omega⟩
    rw [show b + ((0 : Nat) : Int) + 1 = b + 1 by omega] at hd
    exact hd
  | d + 1, b, hd => by
    rw [stF]
    by_cases q : CF L N h (b + 1) ≤ r
    · rw [if_pos q]
      exact ⟨Int.le_refl _, by omega, q, fun x h1 h2 => by omega⟩
    · rw [if_neg q]
      obtain ⟨g1, g2, g3, g4⟩ := stF_spec (r := r) d (b + 1) (by rw [show b + 1 + (d : Int) + 1 = b + ((d + 1 : Nat) : Int) + 1 by omega]; exact hd)
      refine ⟨by omega, by omega, g3, fun x h1 h2 => ?_⟩
      by_cases e : x = b
      · rw [e]; omega
      · exact g4 x (by omega) h2
/-- behind the first i chosen -/
noncomputable def tkA (L : Nat → Int) (N : Nat) (h : Int) (n : Nat) : Nat → Int
  | 0 => 0
  | i + 1 => stF L N h (n - (i + 1)) h.toNat (nxv L (tkA L N h n i) N) + 1
theorem tk_step (hh : 0 ≤ h) (hL : ∀ k, k < N → 0 ≤ L k ∧ L k ≤ 99) {a : Int} {r : Nat} (ha : CF L N h a = r + 1) : ∃ s c, s = nxv L a N ∧ c = stF L N h r h.toNat s ∧ a ≤ s ∧ 0 ≤ s ∧ s ≤ 99 ∧ (∀ k, k < N → a ≤ L k → s ≤ L k) ∧ s ≤ c ∧ c ≤ s + h ∧ CF L N h (c + 1) = r ∧ ∀ x, s ≤ x → x < c → r < CF L N h (x + 1) := by
  rcases nxv_ok (L := L) (v := a) N (fun k hk => (hL k hk).1) with ⟨e1, i1⟩ | ⟨i0, i1, ⟨k, k1, k2⟩, i2⟩
  · rw [CF_none e1] at ha
    omega
  · have hs := CF_step hh hL i0
    have eh : ((h.toNat : Nat) : Int) = h := by omega
    obtain ⟨g1, g2, g3, g4⟩ := stF_spec (L := L) (N := N) (h := h) (r := r) h.toNat (nxv L a N) (by rw [eh]; omega)
    rw [eh] at g2
    have h1 := CF_anti hh hL (v := stF L N h r h.toNat (nxv L a N) + 1) (u := nxv L a N + h + 1) (by omega)
    have := (hL k k1).2
    exact ⟨_, _, rfl, rfl, i1, i0, by omega, i2, g1, g2, by omega, g4⟩
theorem tkA_CF (hh : 0 ≤ h) (hL : ∀ k, k < N → 0 ≤ L k ∧ L k ≤ 99) {n : Nat} (hn : n = CF L N h 0) : ∀ i : Nat, i ≤ n → CF L N h (tkA L N h n i) = n - i
  | 0, _ => hn.symm
  | i + 1, hi => by
    have ih := tkA_CF hh hL hn i (by omega)
    obtain ⟨s, c, e1, e2, -, -, -, -, -, -, e3, -⟩ := tk_step hh hL (r := n - (i + 1)) (a := tkA L N h n i) (by omega)
    rw [tkA, ← e1, ← e2]
    exact e3
/-- what is so of the i-th chosen -/
theorem tkA_all (hh : 0 ≤ h) (hL : ∀ k, k < N → 0 ≤ L k ∧ L k ≤ 99) {n : Nat} (hn : n = CF L N h 0) {i : Nat} (hi : i < n) : ∃ s c, s = nxv L (tkA L N h n i) N ∧ tkA L N h n (i + 1) = c + 1 ∧ tkA L N h n i ≤ s ∧ 0 ≤ s ∧ s ≤ 99 ∧ (∀ k, k < N → tkA L N h n i ≤ L k → s ≤ L k) ∧ s ≤ c ∧ c ≤ s + h ∧ CF L N h (c + 1) = n - (i + 1) ∧ ∀ x, s ≤ x → x < c → n - (i + 1) < CF L N h (x + 1) := by
  have h0 := tkA_CF hh hL hn i (by omega)
  obtain ⟨s, c, e1, e2, e3⟩ := tk_step hh hL (r := n - (i + 1)) (a := tkA L N h n i) (by omega)
  exact ⟨s, c, e1, by rw [tkA, ← e1, ← e2], e3⟩
theorem tkA_rng (hh : 0 ≤ h ∧ h ≤ 9) (hL : ∀ k, k < N → 0 ≤ L k ∧ L k ≤ 99) {n : Nat} (hn : n = CF L N h 0) : ∀ i : Nat, i ≤ n → 0 ≤ tkA L N h n i ∧ tkA L N h n i ≤ 109
  | 0, _ => ⟨Int.le_refl 0, by rw [tkA]; omega⟩
  | i + 1, hi => by
    obtain ⟨s, c, -, e2, -, e4, e5, -, e6, e7, -⟩ := tkA_all hh.1 hL hn (i := i) (by omega)
    omega
theorem y_srvS {T : Nat → Int} {i : Nat} {v : Int} : y_srv T h ((i + 1 : Nat) : Int) v ↔ (y_srv T h (i : Int) v ∨ (v ≤ T i ∧ T i ≤ v + h)) := by
  constructor
  · rintro ⟨q, h1, h2⟩
    by_cases e : q = i
    · rw [e] at h2
      exact Or.inr h2
    · exact Or.inl ⟨q, by omega, h2⟩
  · rintro (⟨q, h1, h2⟩ | h2)
    · exact ⟨q, by omega, h2⟩
    · exact ⟨i, by omega, h2⟩
theorem srv_all (hh : 0 ≤ h) (hL : ∀ k, k < N → 0 ≤ L k ∧ L k ≤ 99) {n : Nat} (hn : n = CF L N h 0) {T : Nat → Int} : ∀ i : Nat, i ≤ n → (∀ k, k < i → T k = tkA L N h n (k + 1) - 1) → ∀ k, k < N → (y_srv T h (i : Int) (L k) ↔ L k < tkA L N h n i)
  | 0, _, _, k, hk => by
    have h1 := (hL k hk).1
    constructor
    · rintro ⟨q, h2, -⟩
      omega
    · intro h2
      rw [tkA] at h2
      omega
  | i + 1, hi, hT, k, hk => by
    have ih := srv_all hh hL hn (T := T) i (by omega) (fun k hk => hT k (by omega)) k hk
    obtain ⟨s, c, e1, e2, e3, e4, e5, e6, e7, e8, -⟩ := tkA_all hh hL hn (i := i) (by omega)
    have hTi := hT i (by omega)
    have h6 := e6 k hk
    rw [y_srvS, ih]
    omega
theorem y_wantS (hh : 0 ≤ h) (hL : ∀ k, k < N → 0 ≤ L k ∧ L k ≤ 99) {T : Nat → Int} {q a : Int} (ha : 0 ≤ a) (hs : ∀ k, k < N → (y_srv T h q (L k) ↔ L k < a)) : y_want L T h (N : Int) q = ((CF L N h a : Nat) : Int) := by
  have hA : ∀ v : Int, y_A L T h (N : Int) q v ↔ ((∃ k : Nat, k < N ∧ L k = v) ∧ a ≤ v) := by
    intro v
    constructor
    · rintro ⟨⟨k, k1, k2⟩, h2⟩
      refine ⟨⟨k, by omega, k2⟩, ?_⟩
      have := hs k (by omega)
      rw [k2] at this
      by_cases e : v < a
      · exact absurd (this.mpr e) h2
      · omega
    · rintro ⟨⟨k, k1, k2⟩, h2⟩
      refine ⟨⟨k, by omega, k2⟩, fun h3 => ?_⟩
      have := hs k k1
      rw [k2] at this
      have := this.mp h3
      omega
  unfold y_want
  by_cases q1 : a ≤ 100
  · obtain ⟨a, rfl⟩ : ∃ b : Nat, a = (b : Int) := ⟨a.toNat, by omega⟩
    have w0 : y_w (y_A L T h (N : Int) q) h a = (0, -1) := y_w0 (fun v hv => fun y => by
      have := ((hA v).mp y).2
      omega)
    have key := few_wA (A := y_A L T h (N : Int) q) (L := L) (N := N) (v0 := a) hh hL (fun x hx => by
      rw [hA]
      exact ⟨fun y => y.1, fun y => ⟨y, by omega⟩⟩) N a (Nat.le_refl _) (by omega) (cge_le N) (by rw [w0]; show (-1 : Int) < _; omega)
    rw [key, w0]
    show (0 : Int) + _ = _
    rw [Int.zero_add]
    rfl
  · have w0 : y_w (y_A L T h (N : Int) q) h 100 = (0, -1) := y_w0 (fun v hv => fun y => by
      have := ((hA v).mp y).2
      omega)
    have e1 : nxv L a N = -1 := by
      rcases nxv_ok (L := L) (v := a) N (fun k hk => (hL k hk).1) with ⟨e1, -⟩ | ⟨-, x1, ⟨k3, x2, x3⟩, -⟩
      · exact e1
      · have := (hL k3 x2).2
        omega
    rw [w0, CF_none e1]
    rfl
noncomputable def sCh (L : Nat → Int) (N : Nat) (h : Int) (n : Nat) : Nat → Int
  | 0 => 0
  | i + 1 => sCh L N h n i + (tkA L N h n (i + 1) - 1)
theorem CF_congr {L2 : Nat → Int} (e : ∀ k, k < N → L2 k = L k) (v : Int) : CF L2 N h v = CF L N h v := by
  unfold CF
  rw [nxv_congr N e, pkv_congr e]
theorem stF_congr {L2 : Nat → Int} (e : ∀ k, k < N → L2 k = L k) {r : Nat} : ∀ (d : Nat) (b : Int), stF L2 N h r d b = stF L N h r d b
  | 0, _ => rfl
  | d + 1, b => by rw [stF, stF, CF_congr e, stF_congr e d]
theorem tkA_congr {L2 : Nat → Int} (e : ∀ k, k < N → L2 k = L k) {n : Nat} : ∀ i : Nat, tkA L2 N h n i = tkA L N h n i
  | 0 => rfl
  | i + 1 => by rw [tkA, tkA, tkA_congr e i, nxv_congr N e, stF_congr e]
theorem sCh_congr {L2 : Nat → Int} (e : ∀ k, k < N → L2 k = L k) {n : Nat} : ∀ i : Nat, sCh L2 N h n i = sCh L N h n i
  | 0 => rfl
  | i + 1 => by rw [sCh, sCh, sCh_congr e i, tkA_congr e]
end ZChosen
section ZTrunkX
variable {T : Nat → Nat → zG → (Option zA → zM → Prop) → Prop} {B : Int}
/-- what the class packs -/
theorem z_packFewC (hT : zRules T) {D : Nat} {κ : Option zA → zM → Prop} {m : zM} {h : Int} {n N : Nat} (hB : zB m) (hN : m 52 1 = (N : Int)) (hN26 : N ≤ 26) (hn : n = CF (m 53) N h 0) (hh : 0 ≤ h ∧ h ≤ 9) (hk : ∀ M, n ≤ N → zB M → zFr (inL [(58, none)]) m M → (∀ i, i < n → M 58 i = tkA (m 53) N h n (i + 1) - 1) → κ (some (zi (n : Int))) M) : T (D + 4) 91 (0, [(0, zr 52), (1, zi h)], [], m) κ := by
  have b52 : 0 ≤ m 52 1 ∧ m 52 1 ≤ 60 := hB 52 1
  have hL : ∀ k, k < N → 0 ≤ m 53 k ∧ m 53 k ≤ 99 := fun k _ => hB 53 k
  have hnN : n ≤ N := by rw [hn]; exact pkv_le N _
  refine zb91_0 hT hB hh ?_
  refine z_countFew hT hB hN (by omega) hh (fun _ => ?_)
  rw [show pkv (m 53) N h N (nxv (m 53) 0 N) = n from hn.symm]
  refine zb91_6 hT rfl hB hh (by omega) ?_
  refine z_nextLaw (D := D + 1) hT hB hN (by omega) (fun ha => ?_)
  refine zb91_12 hT rfl hB hh (by omega) ha ?_
  have outer : ∀ (j i : Nat) (a : Int) (M : zM), i + j = n → a = nxv (m 53) (tkA (m 53) N h n i) N → (-1 ≤ a ∧ a ≤ 99) → zB M → zFr (inL [(58, none)]) m M → (∀ q, q < i → M 58 q = tkA (m 53) N h n (q + 1) - 1) → T (D + 4) 91 (16, [(0, zr 52), (1, zi h), (2, zi (n : Int)), (3, zi a), (4, zi (i : Int))], [], M) κ := by
    intro j
    induction j with
    | zero =>
      intro i a M hi hae ha hBM hF h58
      have ei : i = n := by omega
      subst ei
      exact zb91_16 hT rfl hBM hh (by omega) ha (by omega) (fun _ => hk M hnN hBM hF h58) (fun q => by omega) (fun q => by omega)
    | succ j ih =>
      intro i a M hi hae ha hBM hF h58
      obtain ⟨s, c, e1, e2, e3, e4, e5, e6, e7, e8, e9, e10⟩ := tkA_all hh.1 hL hn (i := i) (by omega)
      have eas : a = s := hae.trans e1.symm
      refine zb91_16 hT rfl hBM hh (by omega) ha (by omega) (fun q => by omega) (fun _ q => by omega) (fun _ i26 => ?_)
      have e52 : M 52 1 = (N : Int) := (hF 52 1 rfl).trans hN
      have e53 : M 53 = m 53 := funext fun q => hF 53 q rfl
      have out : zB (zu M 58 i c) → T (D + 3) 92 (0, [(0, zr 52), (1, zi (c + 1))], [], (zu M 58 i c)) (fun r m1 => T (D + 4) 91 (84, [(0, zr 52), (1, zi h), (2, zi (n : Int)), (3, zi a), (4, zi (i : Int)), (5, zi c)], r.toList ++ [], m1) κ) := by
        intro hz
        have e53' : (zu M 58 i c) 53 = m 53 := by rw [zu_dnR (by omega)]; exact e53
        refine z_nextLaw (D := D + 1) (N := N) hT hz (by rw [zu_dn (by omega), e52]) (by omega) (fun hf => ?_)
        rw [e53'] at hf ⊢
        refine zb91_84 hT rfl hz hh (by omega) (by omega) hf (ih (i + 1) _ _ (by omega) (by rw [e2]) hf hz (hF.set rfl) (fun q hq => ?_))
        by_cases e : q = i
        · rw [zu_sm e, e, e2]
          omega
        · rw [zu_off e]
          exact h58 q (by omega)
      have inner : ∀ (q : Nat) (b : Int), b + q = c → s ≤ b → T (D + 4) 91 (35, [(0, zr 52), (1, zi h), (2, zi (n : Int)), (3, zi a), (4, zi (i : Int)), (5, zi b)], [], M) κ := by
        intro q
        induction q with
        | zero =>
          intro b hbq hb
          have ebc : b = c := by omega
          subst ebc
          refine zb91_35 hT rfl hBM hh (by omega) ha (by omega) (by omega) (fun _ => by omega) (fun _ hz => out hz) (fun _ => ?_)
          refine z_countFew (D := D) (N := N) hT hBM e52 (by omega) hh (fun hle => ?_)
          rw [e53] at hle ⊢
          have e9' : pkv (m 53) N h N (nxv (m 53) (b + 1) N) = n - (i + 1) := e9
          rw [e9'] at hle ⊢
          exact zb91_52 hT rfl hBM hh (by omega) ha (by omega) (by omega) (by omega) (fun _ => by omega) (fun _ hz => out hz) (fun q => by omega)
        | succ q ih2 =>
          intro b hbq hb
          refine zb91_35 hT rfl hBM hh (by omega) ha (by omega) (by omega) (fun q => by omega) (fun q _ => by omega) (fun _ => ?_)
          refine z_countFew (D := D) (N := N) hT hBM e52 (by omega) hh (fun hle => ?_)
          rw [e53] at hle ⊢
          have e10' : n - (i + 1) < pkv (m 53) N h N (nxv (m 53) (b + 1) N) := e10 b hb (by omega)
          generalize pkv (m 53) N h N (nxv (m 53) (b + 1) N) = v at hle e10' ⊢
          exact zb91_52 hT rfl hBM hh (by omega) ha (by omega) (by omega) (by omega) (fun _ => by omega) (fun q _ => by omega) (fun _ => ih2 (b + 1) (by omega) (by omega))
      rw [eas]
      rw [eas] at inner
      exact inner (c - s).toNat s (by omega) (Int.le_refl _)
  exact outer n 0 _ m (by omega) rfl ha hB zFr.refl (fun q hq => absurd hq (Nat.not_lt_zero q))
/-- what the reference takes -/
theorem z_findTakenC (hT : zRules T) {D : Nat} {κ : Option zA → zM → Prop} {m : zM} {n N : Nat} (hB : zB m) (hN : m 74 49 = (N : Int)) (hN2 : N ≤ 26) (hn : n = CF (m 97) N (m 79 0) 0) (hk : ∀ M, n ≤ N → zB M → zFr (inL [(98, none)]) m M → (∀ i, i < n → M 98 i = tkA (m 97) N (m 79 0) n (i + 1) - 1) → y_want (m 97) (tkT M) (m 79 0) (N : Int) (n : Int) ≤ 0 → κ (some (zi (n : Int))) M) : T (D + 5) 270 (0, [(0, zr 74)], [], m) κ := by
  have b79 : 0 ≤ m 79 0 ∧ m 79 0 ≤ 9 := hB 79 0
  have hL : ∀ k, k < N → 0 ≤ m 97 k ∧ m 97 k ≤ 99 := fun k _ => hB 97 k
  have hnN : n ≤ N := by rw [hn]; exact pkv_le N _
  have rT := tkA_rng b79 hL hn
  have cT := tkA_CF b79.1 hL hn
  refine zb270_0 (D := D) hT hB ?_
  refine z_wanting (q := 0) hT hB (by omega) hN (by omega) ?_
  rw [few_want b79.1 hL (fun _ _ => rfl), show pkv (m 97) N (m 79 0) N (nxv (m 97) 0 N) = n from hn.symm]
  refine zb270_5 (D := D) hT rfl hB (by omega) ?_
  have head : ∀ (j i : Nat) (a : Int) (M : zM), i + j = n → a = tkA (m 97) N (m 79 0) n i → zB M → zFr (inL [(98, none)]) m M → (∀ q, q < i → M 98 q = tkA (m 97) N (m 79 0) n (q + 1) - 1) → T (D + 5) 270 (10, [(0, zr 74), (1, zi (n : Int)), (2, zi a), (3, zi (i : Int))], [], M) κ := by
    intro j
    induction j with
    | zero =>
      intro i a M hi ha hBM hF h98
      have ei : i = n := by omega
      subst ei
      have ra := rT i (by omega)
      have hTk : ∀ q, q < i → tkT M q = tkA (m 97) N (m 79 0) i (q + 1) - 1 := fun q hq => by
        have := rT (q + 1) (by omega)
        show wr (M 98 q) = _
        rw [h98 q hq]
        exact wr_id (by omega) (by omega)
      refine zb270_10 (D := D) hT rfl hBM (by omega) (by omega) (by omega) (fun _ => hk M hnN hBM hF h98 ?_) (fun x => by omega) (fun x => by omega)
      rw [y_wantS b79.1 hL ra.1 (srv_all b79.1 hL hn i (Nat.le_refl _) hTk), cT i (Nat.le_refl _)]
      omega
    | succ j ih =>
      intro i a M hi ha hBM hF h98
      have ra := rT i (by omega)
      obtain ⟨s, c, e1, e2, e3, e4, e5, e6, e7, e8, e9, e10⟩ := tkA_all b79.1 hL hn (i := i) (by omega)
      have c0 := cT i (by omega)
      refine zb270_10 (D := D) hT rfl hBM (by omega) (by omega) (by omega) (fun x => by omega) (fun _ => by omega) (fun _ hz => ?_)
      have inner : ∀ (r : Nat) (b : Int) (M : zM), b + r = c → tkA (m 97) N (m 79 0) n i ≤ b → M 98 i = b → zB M → zFr (inL [(98, none)]) m M → (∀ q, q < i → M 98 q = tkA (m 97) N (m 79 0) n (q + 1) - 1) → T (D + 5) 270 (22, [(0, zr 74), (1, zi (n : Int)), (3, zi (i : Int))], [], M) κ := by
        intro r
        induction r with
        | zero =>
          intro b M hr hab hb hBM hF h98
          have e97 : M 97 = m 97 := funext fun j => hF 97 j rfl
          have e79 : M 79 0 = m 79 0 := hF 79 0 rfl
          refine zb270_22 (D := D) hT rfl hBM (by omega) (by omega) ?_
          rw [show (i : Int) + 1 = ((i + 1 : Nat) : Int) by omega]
          refine z_wanting (q := i + 1) hT hBM (by omega) ((hF 74 49 rfl).trans hN) (by omega) ?_
          have h98' : ∀ q, q < i + 1 → M 98 q = tkA (m 97) N (m 79 0) n (q + 1) - 1 := fun q hq => by
            by_cases e : q = i
            · rw [e, hb, e2]; omega
            · exact h98 q (by omega)
          have hTk : ∀ q, q < i + 1 → tkT M q = tkA (m 97) N (m 79 0) n (q + 1) - 1 := fun q hq => by
            have := rT (q + 1) (by omega)
            show wr (M 98 q) = _
            rw [h98' q hq]
            exact wr_id (by omega) (by omega)
          rw [e97, e79, y_wantS b79.1 hL (rT (i + 1) (by omega)).1 (srv_all b79.1 hL hn (i + 1) (by omega) hTk), cT (i + 1) (by omega)]
          refine zb270_29 (D := D) hT rfl hBM (by omega) (by omega) (by omega) (by omega) (fun _ => ?_) (fun x => by omega)
          exact ih (i + 1) _ M (by omega) (by rw [hb, e2]; omega) hBM hF h98'
        | succ r ihr =>
          intro b M hr hab hb hBM hF h98
          have e97 : M 97 = m 97 := funext fun j => hF 97 j rfl
          have e79 : M 79 0 = m 79 0 := hF 79 0 rfl
          refine zb270_22 (D := D) hT rfl hBM (by omega) (by omega) ?_
          rw [show (i : Int) + 1 = ((i + 1 : Nat) : Int) by omega]
          refine z_wanting (q := i + 1) hT hBM (by omega) ((hF 74 49 rfl).trans hN) (by omega) ?_
          have hTk : ∀ q, q < i → tkT M q = tkA (m 97) N (m 79 0) n (q + 1) - 1 := fun q hq => by
            have := rT (q + 1) (by omega)
            show wr (M 98 q) = _
            rw [h98 q hq]
            exact wr_id (by omega) (by omega)
          have hTi : tkT M i = b := by
            show wr (M 98 i) = b
            rw [hb]
            exact wr_id (by omega) (by omega)
          have sa := srv_all b79.1 hL hn i (by omega) hTk
          rw [e97, e79]
          have hw : ∃ w : Nat, y_want (m 97) (tkT M) (m 79 0) (N : Int) ((i + 1 : Nat) : Int) = (w : Int) ∧ n - (i + 1) < w ∧ w ≤ N := by
            by_cases q : b < s
            · refine ⟨_, y_wantS b79.1 hL ra.1 (fun k hk => ?_), by omega, pkv_le N _⟩
              have h6 := e6 k hk
              rw [y_srvS, sa k hk, hTi]
              omega
            · refine ⟨_, y_wantS (a := b + 1) b79.1 hL (by omega) (fun k hk => ?_), e10 b (by omega) (by omega), pkv_le N _⟩
              have h6 := e6 k hk
              rw [y_srvS, sa k hk, hTi]
              omega
          obtain ⟨w, hw1, hw2, hw3⟩ := hw
          rw [hw1]
          refine zb270_29 (D := D) hT rfl hBM (by omega) (by omega) (by omega) (by omega) (fun x => by omega) (fun _ hz2 => ?_)
          refine ihr (b + 1) _ (by omega) (by omega) (by rw [zu_sm rfl, hb]) hz2 (hF.set rfl) (fun q hq => ?_)
          rw [zu_off (by omega)]
          exact h98 q hq
      refine inner (c - a).toNat a _ (by omega) (by omega) (zu_sm rfl) hz (hF.set rfl) (fun q hq => ?_)
      rw [zu_off (by omega)]
      exact h98 q hq
  exact head n 0 0 m (by omega) rfl hB zFr.refl (fun q hq => absurd hq (Nat.not_lt_zero q))
theorem w_trunk (hT : zRules T) {v : Int} (hv : isI v) : Way T 147 272 [(0, zr 1), (1, zi v)] [(0, zr 74), (1, zi v)] 7 172 B B True := by
  rintro D m sc ⟨n, k, hI⟩ κ hκ
  have hI0 := hI
  have i1 := hI.1
  have b17 : 0 ≤ m 17 0 ∧ m 17 0 ≤ 6 := i1 17 0
  have b21 : 0 ≤ m 2 1 ∧ m 2 1 ≤ 80 := i1 2 1
  have b240 : 0 ≤ m 24 0 ∧ m 24 0 ≤ 9 := i1 24 0
  obtain ⟨n1, n2⟩ := hI.2.2.2.1.1
  obtain ⟨L, hL⟩ : ∃ L : Nat, m 2 1 = (L : Int) := ⟨(m 2 1).toNat, by omega⟩
  have h9 : m 74 9 = (L : Int) := hI.2.1.1.trans hL
  obtain ⟨F, hFe⟩ : ∃ F : Nat, F = CF (lwv m v.toNat) L (m 24 0) 0 := ⟨_, rfl⟩
  obtain ⟨R, hR⟩ : ∃ R : Int, R = if rwR (m 80) L n v = 0 then wr (sCh (lwv m v.toNat) L (m 24 0) F F) else rwR (m 80) L n v := ⟨_, rfl⟩
  have ref : ∀ (M0 : zM), zB M0 → Agree noT0 m M0 → M0 2 1 = 0 → M0 74 9 = (L : Int) → (∀ q, M0 80 q = m 80 q) → (rwR (m 80) L n v = 0 → M0 72 1 = 1) → (¬ rwR (m 80) L n v = 0 → RowP M0) → κ (some (zi R)) M0 := by
    intro M0 hB0 hA0 e21 h9 h80 hy1 hy2
    refine hκ _ _ (fun D2 κ2 h2 => ?_)
    have fin : ∀ (x : Int) M1, x = R → zB M1 → Agree noT0 m M1 → M1 2 1 = 0 → M1 74 9 = 0 → RowP M1 → κ2 (some (zi x)) M1 := fun x M1 ex hB1 hA1 f1 f2 hr => h2 _ _ (fun _ => by rw [ex]) ⟨n, k, Inv_ntR hI0 hB1 hA1 f1 f2 hr⟩
    refine zb272_0 (D := D2 + 166) hT hB0 hv (fun hz => ?_)
    have hA1 : Agree noT0 m (zu M0 74 12 0) := hA0.trans (.of (L := [(74, some 12)]) (zFr.refl.set rfl) rfl)
    have e21b : (zu M0 74 12 0) 2 1 = 0 := by rw [zu_dn (by omega), e21]
    have h9b : (zu M0 74 12 0) 74 9 = (L : Int) := by rw [zu_off (by omega), h9]
    have h80b : ∀ q, (zu M0 74 12 0) 80 q = m 80 q := fun q => by rw [zu_dn (by omega)]; exact h80 q
    have y1 : rwR (m 80) L n v = 0 → (zu M0 74 12 0) 72 1 = 1 := fun q => (zu_dn (by decide)).trans (hy1 q)
    have y2 : ¬ rwR (m 80) L n v = 0 → RowP (zu M0 74 12 0) := fun q => RowP_fr (.of (L := [(74, some 12)]) (zFr.refl.set rfl) rfl) (hy2 q)
    generalize zu M0 74 12 0 = M at hz hA1 e21b h9b h80b y1 y2 ⊢
    refine z_readWayR (D := D2) hT hI0 hz hA1 h9b h80b hv (fun M1 hB1 hF1 h9 hw => ?_)
    have hA2 : Agree noT0 m M1 := hA1.trans (.of hF1 rfl)
    have f21 : M1 2 1 = 0 := by rw [hF1 2 1 rfl, e21b]
    have hle := rwR_le (g := m 80) (L := L) (n := n) (v := v)
    refine zb272_10 (D := D2 + 166) hT rfl hB1 (by omega) (fun q => ?_) (fun q => fin _ _ (by rw [hR, if_neg (by omega)]) hB1 hA2 f21 h9 (RowP_fr (.of hF1 rfl) (y2 (by omega))))
    have e0 : rwR (m 80) L n v = 0 := by omega
    obtain ⟨hN, h97⟩ := hw e0
    have b49 : 0 ≤ M1 74 49 ∧ M1 74 49 ≤ 26 := hB1 74 49
    have e79 : M1 79 0 = m 24 0 := (hA2 79 0 rfl).trans (hI.2.2.2.2.1 0 (by omega))
    refine z_findTakenC (D := D2 + 166) (n := F) (N := L) hT hB1 hN (by omega) (by rw [e79, CF_congr h97]; exact hFe) (fun M3 hFL hB3 hF3 h98 hdone => ?_)
    rw [e79] at h98
    have h98' : ∀ i, i < F → M3 98 i = tkA (lwv m v.toNat) L (m 24 0) F (i + 1) - 1 := fun i hi => by rw [h98 i hi, tkA_congr h97]
    have b79 : 0 ≤ M1 79 0 ∧ M1 79 0 ≤ 9 := hB1 79 0
    have hA3 : Agree noT0 m M3 := hA2.trans (.of hF3 rfl)
    have g21 : M3 2 1 = 0 := by rw [hF3 2 1 rfl, f21]
    have g9 : M3 74 9 = 0 := by rw [hF3 74 9 rfl, h9]
    have g49 : M3 74 49 = (L : Int) := (hF3 74 49 rfl).trans hN
    have g97 : ∀ j, M3 97 j = M1 97 j := fun j => hF3 97 j rfl
    have g79 : M3 79 0 = M1 79 0 := hF3 79 0 rfl
    have x72 : M3 72 1 = 1 := by rw [hF3 72 1 rfl, hF1 72 1 rfl]; exact y1 e0
    refine zb272_21 (D := D2 + 166) hT rfl hB3 (by omega) ?_
    have third : ∀ (j t : Nat) (s o y : Int), wr s = R → t + j = L → (-1 ≤ y ∧ y + 1 ≤ t) → T (D2 + 172) 272 (61, [(0, zr 74), (4, zi s), (5, zi y), (6, zi o), (7, zi (t : Int))], [], M3) κ2 := by
      intro j
      induction j with
      | zero =>
        intro t s o y hsR ht hy
        refine zb272_61 (D := D2 + 166) hT rfl hB3 (by omega) (by omega) (fun _ hz2 => ?_) (fun q => by omega) (fun q => by omega) (fun q => by omega) (fun q => by omega)
        refine fin _ _ hsR hz2 (hA3.trans (.of (L := [(74, some 11), (81, none)]) (((zFr.refl.set rfl).set rfl).set rfl) rfl)) ?_ ?_ (RowP.len (by simp (disch := decide) only [zu_sm, zu_off, zu_dn, x72] <;> rfl))
        · rw [zu_dn (by omega), zu_dn (by omega), zu_dn (by omega), g21]
        · rw [zu_off (by omega), zu_dn (by omega), zu_off (by omega), g9]
      | succ j ih =>
        intro t s o y hsR ht hy
        have find : T (D2 + 172) 272 (98, [(0, zr 74), (4, zi s), (5, zi y), (7, zi (t : Int)), (8, zi 0)], [], M3) κ2 := by
          obtain ⟨i0, q1, q2, q3⟩ := y_done (L := M1 97) (T := tkT M3) (m := M1 79 0) (n := (L : Int)) (q := (F : Int)) b79.1 (fun k _ => hB1 97 k) hdone t (by omega)
          have loop : ∀ (d i : Nat), i + d = i0 → T (D2 + 172) 272 (98, [(0, zr 74), (4, zi s), (5, zi y), (7, zi (t : Int)), (8, zi (i : Int))], [], M3) κ2 := by
            intro d
            induction d with
            | zero =>
              intro i hi
              have : i = i0 := by omega
              subst this
              have e1 : M1 97 t ≤ wr (M3 98 i) := q2
              have e2 : wr (M3 98 i) ≤ M1 97 t + M1 79 0 := q3
              rw [← g97] at e1 e2
              rw [← g79] at e2
              exact zb272_98 (D := D2 + 166) hT rfl hB3 (by omega) (by omega) (by omega) (fun q => by omega) (fun _ q => by omega) (fun _ _ => ih (t + 1) s _ (y + 1) hsR (by omega) (by omega))
            | succ d ih2 =>
              intro i hi
              exact zb272_98 (D := D2 + 166) hT rfl hB3 (by omega) (by omega) (by omega) (fun _ => ih2 (i + 1) (by omega)) (fun _ _ => ih2 (i + 1) (by omega)) (fun _ _ => ih (t + 1) s _ (y + 1) hsR (by omega) (by omega))
          exact loop i0 0 (by omega)
        exact zb272_61 (D := D2 + 166) hT rfl hB3 (by omega) (by omega) (fun q => by omega) (fun _ _ => find) (fun _ _ _ => find) (fun _ _ _ _ => find) (fun _ _ _ _ => ih (t + 1) s o y hsR (by omega) (by omega))
    have second : ∀ (j i : Nat) (s : Int), s = sCh (lwv m v.toNat) L (m 24 0) F i → i + j = F → T (D2 + 172) 272 (28, [(0, zr 74), (3, zi (F : Int)), (4, zi s), (5, zi (i : Int))], [], M3) κ2 := by
      intro j
      induction j with
      | zero =>
        intro i s hs hi
        have ei : i = F := by omega
        refine zb272_28 (D := D2 + 166) hT rfl hB3 (by omega) (by omega) (fun _ => third L 0 s (-1) (-1) (by rw [hR, if_pos e0, hs, ei]) (by omega) (by omega)) (fun q => by omega)
      | succ j ih =>
        intro i s hs hi
        exact zb272_28 (D := D2 + 166) hT rfl hB3 (by omega) (by omega) (fun q => by omega) (fun _ => ih (i + 1) _ (by rw [sCh, hs, h98' i (by omega)]) (by omega))
    exact second F 0 0 rfl (by omega)
  refine zb147_0 hT i1 hv ?_
  refine z_readWayC hT hI0 hv hL (fun M hBM hF e21 hw => ?_)
  have hA : Agree noT m M := .of hF rfl
  have hle := rwR_le (g := m 80) (L := L) (n := n) (v := v)
  have q9 : M 74 9 = (L : Int) := (hF 74 9 rfl).trans h9
  have q80 : ∀ q, M 80 q = m 80 q := fun q => hF 80 q rfl
  refine zb147_5 hT rfl hBM (by omega) (fun q => ?_) (fun q => ?_)
  · obtain ⟨hN, hL26, h53⟩ := hw q
    have e24 : M 24 0 = m 24 0 := hF 24 0 rfl
    rw [e24]
    refine z_packFewC (D := D + 2) (n := F) hT hBM hN hL26 (by rw [CF_congr h53]; exact hFe) b240 (fun M2 hc hB2 hF2 h58 => ?_)
    have h58' : ∀ i, i < F → M2 58 i = tkA (lwv m v.toNat) L (m 24 0) F (i + 1) - 1 := fun i hi => by rw [h58 i hi, tkA_congr h53]
    have hA2 : Agree noT m M2 := hA.trans (.of hF2 rfl)
    have g21 : M2 2 1 = 0 := by rw [hF2 2 1 rfl, e21]
    have g9 : M2 74 9 = (L : Int) := (hF2 74 9 rfl).trans q9
    have g80 : ∀ q, M2 80 q = m 80 q := fun q => (hF2 80 q rfl).trans (q80 q)
    have c24 : 0 ≤ M2 24 0 ∧ M2 24 0 ≤ 9 := hB2 24 0
    refine zb147_26 hT rfl hB2 (by omega) ?_
    have loop : ∀ (j i : Nat) (s : Int), s = sCh (lwv m v.toNat) L (m 24 0) F i → i + j = F → T (D + 7) 147 (33, [(0, zr 1), (3, zi (F : Int)), (4, zi s), (5, zi (i : Int))], [], M2) κ := by
      intro j
      induction j with
      | zero =>
        intro i s hs hi
        have ei : i = F := by omega
        refine zb147_33 hT rfl hB2 (by omega) (by omega) (fun _ => ?_) (fun q => by omega)
        refine z_changes0 (D := D + 4) hT hB2 (by omega) c24 (fun x hx => ?_)
        refine zb147_79 hT rfl hB2 hx (fun hz => ?_)
        have eR : wr s = R := by rw [hR, if_pos q, hs, ei]
        rw [eR]
        exact ref _ hz (hA2.n0.trans (.of (L := [(72, some 1), (73, none)]) ((zFr.refl.set rfl).set rfl) rfl)) (by rw [zu_dn (by omega), zu_dn (by omega), g21]) (by rw [zu_dn (by omega), zu_dn (by omega), g9]) (fun q => by rw [zu_dn (by omega), zu_dn (by omega), g80]) (fun _ => by simp (disch := decide) only [zu_sm, zu_off, zu_dn] <;> rfl) (fun x => absurd q x)
      | succ j ih =>
        intro i s hs hi
        exact zb147_33 hT rfl hB2 (by omega) (by omega) (fun q => by omega) (fun _ => ih (i + 1) _ (by rw [sCh, hs, h58' i (by omega)]) (by omega))
    exact loop F 0 0 rfl (by omega)
  · have eR : rwR (m 80) L n v = R := by rw [hR, if_neg q]
    rw [eR]
    exact ref _ hBM hA.n0 e21 q9 q80 (fun x => absurd x q) (fun _ => RowP_fr (.of hF rfl) hI.2.2.2.2.2.2.2.2.2.2.2.2.2)
end ZTrunkX
