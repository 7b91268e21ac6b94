/-! A thing of THE RULE; LAW by the reference. -/
section ZThing
variable {T : Nat → Nat → zG → (Option zA → zM → Prop) → Prop} {m : zM} {s : Nat → Int} {L f : Nat}
theorem byte_s {b x : Int} (hb : -128 ≤ b ∧ b ≤ 127) (h : z_and b 255 = x) (hx : x ≤ 127) : b = x := by
  rw [z_and255] at h
  omega
theorem rr_num_80 (hT : zRules T) (hrd : m 74 13 = 80) (hsd : s = sgR m 80) (hL : L ≤ 80) (h15 : m 74 15 ≤ 80) (hs : ∀ a, L ≤ a → s a = -1) {D : Nat} {κ : Option zA → zM → Prop} : ∀ (j k a : Nat) (v : Int) (M : zM) (lo : zL), k + j = 3 → (0 ≤ v ∧ (k = 0 → v ≤ 0) ∧ (k = 1 → v ≤ 9) ∧ (k = 2 → v ≤ 99) ∧ v ≤ 999) → zB M → zFr pW m M → M 74 16 = (a : Int) → M 74 17 = -1 → a ≤ L → z_keep [0, 3, 4] lo = [(0, zr 74), (3, zi v), (4, zi (k : Int))] →
    (∀ M1, zB M1 → zFr pW m M1 → M1 74 16 = ((rNum s j a v).1 : Int) → M1 74 17 = -1 → κ (some (zi (rNum s j a v).2)) M1) → T (D + 4) 211 (83, lo, [], M) κ := by
  have hlt : ∀ a, ¬ s a = -1 → a < L := fun a h => by
    rcases Nat.lt_or_ge a L with q | q
    · exact q
    · exact absurd (hs a q) h
  intro j
  induction j with
  | zero =>
    intro k a v M lo hk hv hBM hF h16 h17 ha hlo hκ
    refine zb211_83_80 hT hlo hBM ((hF 74 13 rfl).trans hrd) (by omega) (by omega) (by omega) (by omega) (by have e15 := hF 74 15 rfl; have b15 : 0 ≤ M 74 15 ∧ M 74 15 ≤ 80 := hBM 74 15; omega) (fun _ => hκ M hBM hF h16 h17) (fun q => by omega) (fun q => by omega) (fun q => by omega) (fun q => by omega)
  | succ j ih =>
    intro k a v M lo hk hv hBM hF h16 h17 ha hlo hκ
    have hr : hrR M 80 = s a := by rw [hsd]; exact hr_s (by omega) hF h16
    rw [rNum] at hκ
    refine zb211_83_80 hT hlo hBM ((hF 74 13 rfl).trans hrd) (by omega) (by omega) (by omega) (by omega) (by have e15 := hF 74 15 rfl; have b15 : 0 ≤ M 74 15 ∧ M 74 15 ≤ 80 := hBM 74 15; omega) (fun q => by omega) (fun _ q => ?_) (fun _ q1 q2 => ?_) (fun _ q1 q2 => ?_) (fun _ q1 q2 hz => ?_)
    · rw [hr] at q
      rw [if_neg (by omega)] at hκ
      exact hκ M hBM hF h16 h17
    · rw [hr] at q1 q2
      rw [if_neg (by omega)] at hκ
      exact hκ M hBM hF h16 h17
    · rw [hr] at q1 q2
      have := hlt a (by omega)
      omega
    · rw [hr] at q1 q2
      have haL := hlt a (by omega)
      rw [if_pos (by omega)] at hκ
      have e9 : ((M 74 16 + 1) - 1).toNat = a := by omega
      have hb : -128 ≤ M 80 a ∧ M 80 a ≤ 127 := hBM 80 a
      have hsa : z_and (M 80 a) 255 = s a := by
        have h2 := hr
        unfold hrR at h2
        rw [h16, Int.toNat_natCast] at h2
        split at h2
        · exact h2
        · omega
      have hd := byte_s hb hsa (by omega)
      rw [e9, hd]
      refine ih (k + 1) (a + 1) (10 * v + (s a - 48)) _ _ (by omega) (by omega) hz (hF.set rfl) ?_ ?_ haL rfl hκ
      · rw [zu_sm rfl]
        omega
      · rw [zu_off (by omega)]
        exact h17
theorem rr_thing_80 (hT : zRules T) (hrd : m 74 13 = 80) (hsd : s = sgR m 80) (hL : L ≤ 80) (h15 : m 74 15 ≤ 80) (hs : ∀ a, L ≤ a → s a = -1) (hE : okEnv m) (h5 : Rs T m s L 211 5 1 f) (h0 : Rs T m s L 208 0 4 f) : Rs T m s L 211 5 1 (f + 1) := by
  intro D dp a M κ hdp hBM hF h16 h17 ha hf hκ
  have hlt : ∀ a, ¬ s a = -1 → a < L := fun a h => by
    rcases Nat.lt_or_ge a L with q | q
    · exact q
    · exact absurd (hs a q) h
  have hr : hrR M 80 = s a := by rw [hsd]; exact hr_s (by omega) hF h16
  have n16 : (zu M 74 16 (M 74 16 + 1)) 74 16 = ((a + 1 : Nat) : Int) := by rw [zu_sm rfl]; omega
  have n17 : (zu M 74 16 (M 74 16 + 1)) 74 17 = -1 := by rw [zu_off (by omega)]; exact h17
  have f17 : (zu M 74 17 (M 74 16)) 74 17 = (a : Int) := by rw [zu_sm rfl]; exact h16
  have e26 : M 74 26 = m 74 26 := hF 74 26 rfl
  have e27 : M 74 27 = m 74 27 := hF 74 27 rfl
  have e28 : M 74 28 = m 74 28 := hF 74 28 rfl
  have e29 : M 74 29 = m 74 29 := hF 74 29 rfl
  have e30 : M 74 30 = m 74 30 := hF 74 30 rfl
  have e77 : ∀ j, M 77 j = m 77 j := fun j => hF 77 j rfl
  have e76 : ∀ j, M 76 j = m 76 j := fun j => hF 76 j rfl
  have b77 : 0 ≤ m 77 (m 74 29).toNat ∧ m 77 (m 74 29).toNat ≤ 26 := by
    have := hBM 77 (m 74 29).toNat
    rw [e77] at this
    exact this
  have okl : ¬ m 74 26 = 0 → (0 ≤ m 74 29 ∧ m 74 29 ≤ 3) ∧ (0 ≤ m 74 30 ∧ m 74 30 ≤ 500000) ∧ 1 ≤ m 77 (m 74 29).toNat := fun q => hE.resolve_left q
  have okm : ¬ m 74 26 = 0 → 0 ≤ Int.tmod (m 74 30) (m 77 (m 74 29).toNat) ∧ Int.tmod (m 74 30) (m 77 (m 74 29).toNat) ≤ 25 := fun q => by
    obtain ⟨q1, q2, q3⟩ := okl q
    exact z_tmodB _ _ _ q2.1 q3 (by omega)
  rw [rp, if_neg (by omega), if_neg (by omega), if_neg (by omega), if_neg (by omega), if_neg (by omega)] at hκ
  refine zb211_0_80 hT hBM ((hF 74 13 rfl).trans hrd) hdp (by omega) (by omega) (by have e15 := hF 74 15 rfl; have b15 : 0 ≤ M 74 15 ∧ M 74 15 ≤ 80 := hBM 74 15; omega) ?_ ?_ ?_ ?_ ?_ ?_ ?_ ?_ ?_ ?_ ?_ ?_ ?_ ?_ ?_ ?_ ?_ ?_ ?_
  all_goals rw [hr]
  · intro c1 hz
    rw [if_pos c1] at hκ
    have haL := hlt a (by omega)
    have hok := rp_ok hs f 5 dp (a + 1) e0f haL (fun _ => rfl)
    refine h5 D dp (a + 1) _ _ hdp hz (hF.set rfl) n16 n17 haL (by omega) ?_
    revert hκ hok
    cases rp s f 5 dp (a + 1) e0f with
    | inl x =>
      intro hκ hok w M1 hw hB1 hF1 hx
      exact zb211_14_80 hT rfl (hκ _ M1 (wrB _) hB1 hF1 hx)
    | inr y =>
      obtain ⟨b, w⟩ := y
      intro hκ hok M1 hB1 hF1 g16 g17
      exact zb211_14_80 hT rfl (hκ M1 hB1 hF1 g16 g17)
  · intro c1 c2 c3 hz
    simp (disch := omega) only [if_neg] at hκ
    exact hκ 0 _ (by omega) hz (hF.set rfl) f17
  · intro c1 c2 c3 c4 c5 c6 hz
    simp (disch := omega) only [if_neg, if_pos] at hκ
    rw [e26] at c6
    have := hκ _ hz (hF.set rfl) n16 n17
    unfold envR at this
    rw [if_neg c6] at this
    rw [e28]
    exact this
  · intro c1 c2 c3 c4 c5 c6 hz
    simp (disch := omega) only [if_neg, if_pos] at hκ
    rw [e26] at c6
    have := hκ _ hz (hF.set rfl) n16 n17
    unfold envR at this
    rw [if_pos c6] at this
    exact this
  · intro c1 c2 c3 c4 c5 c6 c7
    rw [e26] at c7
    have h9 := okl c7
    rw [e29, wr_id (by omega) (by omega)]
    omega
  · intro c1 c2 c3 c4 c5 c6 c7
    rw [e26] at c7
    have h9 := okl c7
    rw [e29, wr_id (by omega) (by omega), e77]
    omega
  · intro c1 c2 c3 c4 c5 c6 c7
    rw [e26] at c7
    have h9 := okl c7
    have h8 := okm c7
    rw [e29, e30, wr_id (a := m 74 29) (by omega) (by omega), wr_id (a := m 74 30) (by omega) (by omega), e77, wr_id (by omega) (by omega)]
    omega
  · intro c1 c2 c3 c4 c5 c6 c7 hz
    rw [e26] at c7
    have h9 := okl c7
    have h8 := okm c7
    simp (disch := omega) only [if_neg, if_pos] at hκ
    have := hκ _ hz (hF.set rfl) n16 n17
    unfold envR at this
    rw [if_neg c7] at this
    dsimp only at this
    have b76 : ∀ j, 0 ≤ m 76 j ∧ m 76 j ≤ 9 := fun j => by
      have q := hBM 76 j
      rw [e76] at q
      exact q
    have b9 := b76 (26 * m 74 29 + Int.tmod (m 74 30) (m 77 (m 74 29).toNat)).toNat
    rw [wr_id (a := m 76 _) (by omega) (by omega)] at this
    rw [e29, e30, wr_id (a := m 74 29) (by omega) (by omega), wr_id (a := m 74 30) (by omega) (by omega), e77, wr_id (by omega) (by omega), e76]
    exact this
  · intro c1 c2 c3 c4 c5 c6 c7 hz
    simp (disch := omega) only [if_neg, if_pos] at hκ
    rw [e26] at c7
    have := hκ _ hz (hF.set rfl) n16 n17
    unfold envR at this
    rw [if_pos c7] at this
    exact this
  · intro c1 c2 c3 c4 c5 c6 c7 c8 hz
    simp (disch := omega) only [if_neg, if_pos] at hκ
    rw [e26] at c8
    have := hκ _ hz (hF.set rfl) n16 n17
    unfold envR at this
    rw [if_neg c8] at this
    rw [e30]
    exact this
  · intro c1 c2 c3 c4 c5 c6 c7 c8 hz
    simp (disch := omega) only [if_neg, if_pos] at hκ
    rw [e26] at c8
    have := hκ _ hz (hF.set rfl) n16 n17
    unfold envR at this
    rw [if_pos c8] at this
    exact this
  · intro c1 c2 c3 c4 c5 c6 c7 c8 c9 hz
    simp (disch := omega) only [if_neg, if_pos] at hκ
    rw [e26] at c9
    have := hκ _ hz (hF.set rfl) n16 n17
    unfold envR at this
    rw [if_neg c9] at this
    rw [e29]
    exact this
  · intro c1 c2 c3 c4 c5 c6 c7 c8 c9 hz
    simp (disch := omega) only [if_neg, if_pos] at hκ
    rw [e26] at c9
    have := hκ _ hz (hF.set rfl) n16 n17
    unfold envR at this
    rw [if_pos c9] at this
    exact this
  · intro c1 c2 c3 c4 c5 c6 c7 c8 c9 c10 hz
    simp (disch := omega) only [if_neg, if_pos] at hκ
    rw [e26] at c10
    have := hκ _ hz (hF.set rfl) n16 n17
    unfold envR at this
    rw [if_neg c10] at this
    rw [e27]
    exact this
  · intro c1 c2 c3 c4 c5 c6 c7 c8 c9 c10 hz
    simp (disch := omega) only [if_neg, if_pos] at hκ
    rw [e26] at c10
    have := hκ _ hz (hF.set rfl) n16 n17
    unfold envR at this
    rw [if_pos c10] at this
    exact this
  · intro c1 c2 c3 c4 c5 c6 c7 c8 c9 hz
    simp (disch := omega) only [if_neg] at hκ
    exact hκ 0 _ (by omega) hz (hF.set rfl) f17
  · intro c1 c2 c3 c4
    rw [if_neg c1, if_neg c2, if_pos (by omega)] at hκ
    exact rr_num_80 hT hrd hsd hL h15 hs 3 0 a 0 M _ (by omega) (by omega) hBM hF h16 h17 ha rfl (fun M1 h1 h2 h3 h4 => hκ M1 h1 h2 h3 h4)
  · intro c1 c2 c3 hz
    rw [if_neg c1, if_pos c2, if_neg (by omega)] at hκ
    exact hκ 0 _ (by omega) hz (hF.set rfl) f17
  · intro c1 c2 c3 hz
    rw [if_neg c1, if_pos c2, if_pos (by omega)] at hκ
    have haL := hlt a (by omega)
    have hok := rp_ok hs f 0 (dp + 1) (a + 1) e0f haL (fun _ => rfl)
    refine h0 D (dp + 1) (a + 1) _ _ (by omega) hz (hF.set rfl) n16 n17 haL (by omega) ?_
    revert hκ hok
    cases rp s f 0 (dp + 1) (a + 1) e0f with
    | inl x =>
      intro hκ hok w M1 hw hB1 hF1 hx
      have := hok.2
      refine zb211_58_80f hT rfl hB1 ((hF1 74 13 rfl).trans hrd) (by omega) ?_
      rw [wr_id hw.1 hw.2]
      exact hκ w M1 hw hB1 hF1 hx
    | inr y =>
      obtain ⟨b, w⟩ := y
      intro hκ hok M1 hB1 hF1 g16 g17
      obtain ⟨⟨o1, o2, o3⟩, o4⟩ := hok
      dsimp only [rb] at hκ
      dsimp only at o1 o2 o3 o4 g16
      have hr1 : hrR M1 80 = s b := by rw [hsd]; exact hr_s (by omega) hF1 g16
      have hw := wrR (o4 (envR m))
      refine zb211_58_80 hT rfl hB1 ((hF1 74 13 rfl).trans hrd) (by omega) (by omega) (by have e15 := hF1 74 15 rfl; have b15 : 0 ≤ M1 74 15 ∧ M1 74 15 ≤ 80 := hB1 74 15; omega) (fun q hz1 => ?_) (fun q hz1 => ?_)
      · rw [hr1] at q
        rw [if_pos q] at hκ
        rw [o4]
        refine hκ _ hz1 (hF1.set rfl) ?_ ?_
        · rw [zu_sm rfl]
          dsimp only
          omega
        · rw [zu_off (by omega)]
          exact g17
      · rw [hr1] at q
        rw [if_neg q] at hκ
        rw [o4]
        refine hκ _ _ hw hz1 (hF1.set rfl) ?_
        rw [zu_sm rfl]
        exact g16
theorem rr_all_80 (hT : zRules T) (hrd : m 74 13 = 80) (hsd : s = sgR m 80) (hL : L ≤ 80) (h15 : m 74 15 ≤ 80) (hs : ∀ a, L ≤ a → s a = -1) (hE : okEnv m) : ∀ f, Rs T m s L 208 0 4 f ∧ Rs T m s L 209 1 3 f ∧ Rl T m s L 209 2 f ∧ Rs T m s L 210 3 2 f ∧ Rl T m s L 210 4 f ∧ Rs T m s L 211 5 1 f := by
  intro f
  induction f with
  | zero => exact ⟨fun D dp a M κ _ _ _ _ _ _ h => by omega, fun D dp a M κ _ _ _ _ _ _ h => by omega, fun D dp a M κ v acc _ _ _ _ _ _ h => by omega, fun D dp a M κ _ _ _ _ _ _ h => by omega, fun D dp a M κ v acc _ _ _ _ _ _ h => by omega, fun D dp a M κ _ _ _ _ _ _ h => by omega⟩
  | succ f ih =>
    obtain ⟨i0, i1, i2, i3, i4, i5⟩ := ih
    exact ⟨rr_held_80 hT hrd hsd hL h15 hs i1, rr_sum_80 hT hrd hL h15 hs i3 i2, rr_sumL_80 hT hrd hsd hL h15 hs i3 i2, rr_prod_80 hT hrd hL h15 hs i5 i4, rr_prodL_80 hT hrd hsd hL h15 hs i5 i4, rr_thing_80 hT hrd hsd hL h15 hs hE i5 i0⟩
theorem rr_num_86 (hT : zRules T) (hrd : m 74 13 = 86) (hsd : s = sgR m 86) (hL : L ≤ 40) (h15 : m 74 15 ≤ 40) (hs : ∀ a, L ≤ a → s a = -1) {D : Nat} {κ : Option zA → zM → Prop} : ∀ (j k a : Nat) (v : Int) (M : zM) (lo : zL), k + j = 3 → (0 ≤ v ∧ (k = 0 → v ≤ 0) ∧ (k = 1 → v ≤ 9) ∧ (k = 2 → v ≤ 99) ∧ v ≤ 999) → zB M → zFr pW m M → M 74 16 = (a : Int) → M 74 17 = -1 → a ≤ L → z_keep [0, 3, 4] lo = [(0, zr 74), (3, zi v), (4, zi (k : Int))] →
    (∀ M1, zB M1 → zFr pW m M1 → M1 74 16 = ((rNum s j a v).1 : Int) → M1 74 17 = -1 → κ (some (zi (rNum s j a v).2)) M1) → T (D + 4) 211 (83, lo, [], M) κ := by
  have hlt : ∀ a, ¬ s a = -1 → a < L := fun a h => by
    rcases Nat.lt_or_ge a L with q | q
    · exact q
    · exact absurd (hs a q) h
  intro j
  induction j with
  | zero =>
    intro k a v M lo hk hv hBM hF h16 h17 ha hlo hκ
    refine zb211_83_86 hT hlo hBM ((hF 74 13 rfl).trans hrd) (by omega) (by omega) (by omega) (by omega) (by have e15 := hF 74 15 rfl; have b15 : 0 ≤ M 74 15 ∧ M 74 15 ≤ 80 := hBM 74 15; omega) (fun _ => hκ M hBM hF h16 h17) (fun q => by omega) (fun q => by omega) (fun q => by omega) (fun q => by omega)
  | succ j ih =>
    intro k a v M lo hk hv hBM hF h16 h17 ha hlo hκ
    have hr : hrR M 86 = s a := by rw [hsd]; exact hr_s (by omega) hF h16
    rw [rNum] at hκ
    refine zb211_83_86 hT hlo hBM ((hF 74 13 rfl).trans hrd) (by omega) (by omega) (by omega) (by omega) (by have e15 := hF 74 15 rfl; have b15 : 0 ≤ M 74 15 ∧ M 74 15 ≤ 80 := hBM 74 15; omega) (fun q => by omega) (fun _ q => ?_) (fun _ q1 q2 => ?_) (fun _ q1 q2 => ?_) (fun _ q1 q2 hz => ?_)
    · rw [hr] at q
      rw [if_neg (by omega)] at hκ
      exact hκ M hBM hF h16 h17
    · rw [hr] at q1 q2
      rw [if_neg (by omega)] at hκ
      exact hκ M hBM hF h16 h17
    · rw [hr] at q1 q2
      have := hlt a (by omega)
      omega
    · rw [hr] at q1 q2
      have haL := hlt a (by omega)
      rw [if_pos (by omega)] at hκ
      have e9 : ((M 74 16 + 1) - 1).toNat = a := by omega
      have hb : -128 ≤ M 86 a ∧ M 86 a ≤ 127 := hBM 86 a
      have hsa : z_and (M 86 a) 255 = s a := by
        have h2 := hr
        unfold hrR at h2
        rw [h16, Int.toNat_natCast] at h2
        split at h2
        · exact h2
        · omega
      have hd := byte_s hb hsa (by omega)
      rw [e9, hd]
      refine ih (k + 1) (a + 1) (10 * v + (s a - 48)) _ _ (by omega) (by omega) hz (hF.set rfl) ?_ ?_ haL rfl hκ
      · rw [zu_sm rfl]
        omega
      · rw [zu_off (by omega)]
        exact h17
theorem rr_thing_86 (hT : zRules T) (hrd : m 74 13 = 86) (hsd : s = sgR m 86) (hL : L ≤ 40) (h15 : m 74 15 ≤ 40) (hs : ∀ a, L ≤ a → s a = -1) (hE : okEnv m) (h5 : Rs T m s L 211 5 1 f) (h0 : Rs T m s L 208 0 4 f) : Rs T m s L 211 5 1 (f + 1) := by
  intro D dp a M κ hdp hBM hF h16 h17 ha hf hκ
  have hlt : ∀ a, ¬ s a = -1 → a < L := fun a h => by
    rcases Nat.lt_or_ge a L with q | q
    · exact q
    · exact absurd (hs a q) h
  have hr : hrR M 86 = s a := by rw [hsd]; exact hr_s (by omega) hF h16
  have n16 : (zu M 74 16 (M 74 16 + 1)) 74 16 = ((a + 1 : Nat) : Int) := by rw [zu_sm rfl]; omega
  have n17 : (zu M 74 16 (M 74 16 + 1)) 74 17 = -1 := by rw [zu_off (by omega)]; exact h17
  have f17 : (zu M 74 17 (M 74 16)) 74 17 = (a : Int) := by rw [zu_sm rfl]; exact h16
  have e26 : M 74 26 = m 74 26 := hF 74 26 rfl
  have e27 : M 74 27 = m 74 27 := hF 74 27 rfl
  have e28 : M 74 28 = m 74 28 := hF 74 28 rfl
  have e29 : M 74 29 = m 74 29 := hF 74 29 rfl
  have e30 : M 74 30 = m 74 30 := hF 74 30 rfl
  have e77 : ∀ j, M 77 j = m 77 j := fun j => hF 77 j rfl
  have e76 : ∀ j, M 76 j = m 76 j := fun j => hF 76 j rfl
  have b77 : 0 ≤ m 77 (m 74 29).toNat ∧ m 77 (m 74 29).toNat ≤ 26 := by
    have := hBM 77 (m 74 29).toNat
    rw [e77] at this
    exact this
  have okl : ¬ m 74 26 = 0 → (0 ≤ m 74 29 ∧ m 74 29 ≤ 3) ∧ (0 ≤ m 74 30 ∧ m 74 30 ≤ 500000) ∧ 1 ≤ m 77 (m 74 29).toNat := fun q => hE.resolve_left q
  have okm : ¬ m 74 26 = 0 → 0 ≤ Int.tmod (m 74 30) (m 77 (m 74 29).toNat) ∧ Int.tmod (m 74 30) (m 77 (m 74 29).toNat) ≤ 25 := fun q => by
    obtain ⟨q1, q2, q3⟩ := okl q
    exact z_tmodB _ _ _ q2.1 q3 (by omega)
  rw [rp, if_neg (by omega), if_neg (by omega), if_neg (by omega), if_neg (by omega), if_neg (by omega)] at hκ
  refine zb211_0_86 hT hBM ((hF 74 13 rfl).trans hrd) hdp (by omega) (by omega) (by have e15 := hF 74 15 rfl; have b15 : 0 ≤ M 74 15 ∧ M 74 15 ≤ 80 := hBM 74 15; omega) ?_ ?_ ?_ ?_ ?_ ?_ ?_ ?_ ?_ ?_ ?_ ?_ ?_ ?_ ?_ ?_ ?_ ?_ ?_
  all_goals rw [hr]
  · intro c1 hz
    rw [if_pos c1] at hκ
    have haL := hlt a (by omega)
    have hok := rp_ok hs f 5 dp (a + 1) e0f haL (fun _ => rfl)
    refine h5 D dp (a + 1) _ _ hdp hz (hF.set rfl) n16 n17 haL (by omega) ?_
    revert hκ hok
    cases rp s f 5 dp (a + 1) e0f with
    | inl x =>
      intro hκ hok w M1 hw hB1 hF1 hx
      exact zb211_14_86 hT rfl (hκ _ M1 (wrB _) hB1 hF1 hx)
    | inr y =>
      obtain ⟨b, w⟩ := y
      intro hκ hok M1 hB1 hF1 g16 g17
      exact zb211_14_86 hT rfl (hκ M1 hB1 hF1 g16 g17)
  · intro c1 c2 c3 hz
    simp (disch := omega) only [if_neg] at hκ
    exact hκ 0 _ (by omega) hz (hF.set rfl) f17
  · intro c1 c2 c3 c4 c5 c6 hz
    simp (disch := omega) only [if_neg, if_pos] at hκ
    rw [e26] at c6
    have := hκ _ hz (hF.set rfl) n16 n17
    unfold envR at this
    rw [if_neg c6] at this
    rw [e28]
    exact this
  · intro c1 c2 c3 c4 c5 c6 hz
    simp (disch := omega) only [if_neg, if_pos] at hκ
    rw [e26] at c6
    have := hκ _ hz (hF.set rfl) n16 n17
    unfold envR at this
    rw [if_pos c6] at this
    exact this
  · intro c1 c2 c3 c4 c5 c6 c7
    rw [e26] at c7
    have h9 := okl c7
    rw [e29, wr_id (by omega) (by omega)]
    omega
  · intro c1 c2 c3 c4 c5 c6 c7
    rw [e26] at c7
    have h9 := okl c7
    rw [e29, wr_id (by omega) (by omega), e77]
    omega
  · intro c1 c2 c3 c4 c5 c6 c7
    rw [e26] at c7
    have h9 := okl c7
    have h8 := okm c7
    rw [e29, e30, wr_id (a := m 74 29) (by omega) (by omega), wr_id (a := m 74 30) (by omega) (by omega), e77, wr_id (by omega) (by omega)]
    omega
  · intro c1 c2 c3 c4 c5 c6 c7 hz
    rw [e26] at c7
    have h9 := okl c7
    have h8 := okm c7
    simp (disch := omega) only [if_neg, if_pos] at hκ
    have := hκ _ hz (hF.set rfl) n16 n17
    unfold envR at this
    rw [if_neg c7] at this
    dsimp only at this
    have b76 : ∀ j, 0 ≤ m 76 j ∧ m 76 j ≤ 9 := fun j => by
      have q := hBM 76 j
      rw [e76] at q
      exact q
    have b9 := b76 (26 * m 74 29 + Int.tmod (m 74 30) (m 77 (m 74 29).toNat)).toNat
    rw [wr_id (a := m 76 _) (by omega) (by omega)] at this
    rw [e29, e30, wr_id (a := m 74 29) (by omega) (by omega), wr_id (a := m 74 30) (by omega) (by omega), e77, wr_id (by omega) (by omega), e76]
    exact this
  · intro c1 c2 c3 c4 c5 c6 c7 hz
    simp (disch := omega) only [if_neg, if_pos] at hκ
    rw [e26] at c7
    have := hκ _ hz (hF.set rfl) n16 n17
    unfold envR at this
    rw [if_pos c7] at this
    exact this
  · intro c1 c2 c3 c4 c5 c6 c7 c8 hz
    simp (disch := omega) only [if_neg, if_pos] at hκ
    rw [e26] at c8
    have := hκ _ hz (hF.set rfl) n16 n17
    unfold envR at this
    rw [if_neg c8] at this
    rw [e30]
    exact this
  · intro c1 c2 c3 c4 c5 c6 c7 c8 hz
    simp (disch := omega) only [if_neg, if_pos] at hκ
    rw [e26] at c8
    have := hκ _ hz (hF.set rfl) n16 n17
    unfold envR at this
    rw [if_pos c8] at this
    exact this
  · intro c1 c2 c3 c4 c5 c6 c7 c8 c9 hz
    simp (disch := omega) only [if_neg, if_pos] at hκ
    rw [e26] at c9
    have := hκ _ hz (hF.set rfl) n16 n17
    unfold envR at this
    rw [if_neg c9] at this
    rw [e29]
    exact this
  · intro c1 c2 c3 c4 c5 c6 c7 c8 c9 hz
    simp (disch := omega) only [if_neg, if_pos] at hκ
    rw [e26] at c9
    have := hκ _ hz (hF.set rfl) n16 n17
    unfold envR at this
    rw [if_pos c9] at this
    exact this
  · intro c1 c2 c3 c4 c5 c6 c7 c8 c9 c10 hz
    simp (disch := omega) only [if_neg, if_pos] at hκ
    rw [e26] at c10
    have := hκ _ hz (hF.set rfl) n16 n17
    unfold envR at this
    rw [if_neg c10] at this
    rw [e27]
    exact this
  · intro c1 c2 c3 c4 c5 c6 c7 c8 c9 c10 hz
    simp (disch := omega) only [if_neg, if_pos] at hκ
    rw [e26] at c10
    have := hκ _ hz (hF.set rfl) n16 n17
    unfold envR at this
    rw [if_pos c10] at this
    exact this
  · intro c1 c2 c3 c4 c5 c6 c7 c8 c9 hz
    simp (disch := omega) only [if_neg] at hκ
    exact hκ 0 _ (by omega) hz (hF.set rfl) f17
  · intro c1 c2 c3 c4
    rw [if_neg c1, if_neg c2, if_pos (by omega)] at hκ
    exact rr_num_86 hT hrd hsd hL h15 hs 3 0 a 0 M _ (by omega) (by omega) hBM hF h16 h17 ha rfl (fun M1 h1 h2 h3 h4 => hκ M1 h1 h2 h3 h4)
  · intro c1 c2 c3 hz
    rw [if_neg c1, if_pos c2, if_neg (by omega)] at hκ
    exact hκ 0 _ (by omega) hz (hF.set rfl) f17
  · intro c1 c2 c3 hz
    rw [if_neg c1, if_pos c2, if_pos (by omega)] at hκ
    have haL := hlt a (by omega)
    have hok := rp_ok hs f 0 (dp + 1) (a + 1) e0f haL (fun _ => rfl)
    refine h0 D (dp + 1) (a + 1) _ _ (by omega) hz (hF.set rfl) n16 n17 haL (by omega) ?_
    revert hκ hok
    cases rp s f 0 (dp + 1) (a + 1) e0f with
    | inl x =>
      intro hκ hok w M1 hw hB1 hF1 hx
      have := hok.2
      refine zb211_58_86f hT rfl hB1 ((hF1 74 13 rfl).trans hrd) (by omega) ?_
      rw [wr_id hw.1 hw.2]
      exact hκ w M1 hw hB1 hF1 hx
    | inr y =>
      obtain ⟨b, w⟩ := y
      intro hκ hok M1 hB1 hF1 g16 g17
      obtain ⟨⟨o1, o2, o3⟩, o4⟩ := hok
      dsimp only [rb] at hκ
      dsimp only at o1 o2 o3 o4 g16
      have hr1 : hrR M1 86 = s b := by rw [hsd]; exact hr_s (by omega) hF1 g16
      have hw := wrR (o4 (envR m))
      refine zb211_58_86 hT rfl hB1 ((hF1 74 13 rfl).trans hrd) (by omega) (by omega) (by have e15 := hF1 74 15 rfl; have b15 : 0 ≤ M1 74 15 ∧ M1 74 15 ≤ 80 := hB1 74 15; omega) (fun q hz1 => ?_) (fun q hz1 => ?_)
      · rw [hr1] at q
        rw [if_pos q] at hκ
        rw [o4]
        refine hκ _ hz1 (hF1.set rfl) ?_ ?_
        · rw [zu_sm rfl]
          dsimp only
          omega
        · rw [zu_off (by omega)]
          exact g17
      · rw [hr1] at q
        rw [if_neg q] at hκ
        rw [o4]
        refine hκ _ _ hw hz1 (hF1.set rfl) ?_
        rw [zu_sm rfl]
        exact g16
theorem rr_all_86 (hT : zRules T) (hrd : m 74 13 = 86) (hsd : s = sgR m 86) (hL : L ≤ 40) (h15 : m 74 15 ≤ 40) (hs : ∀ a, L ≤ a → s a = -1) (hE : okEnv m) : ∀ f, Rs T m s L 208 0 4 f ∧ Rs T m s L 209 1 3 f ∧ Rl T m s L 209 2 f ∧ Rs T m s L 210 3 2 f ∧ Rl T m s L 210 4 f ∧ Rs T m s L 211 5 1 f := by
  intro f
  induction f with
  | zero => exact ⟨fun D dp a M κ _ _ _ _ _ _ h => by omega, fun D dp a M κ _ _ _ _ _ _ h => by omega, fun D dp a M κ v acc _ _ _ _ _ _ h => by omega, fun D dp a M κ _ _ _ _ _ _ h => by omega, fun D dp a M κ v acc _ _ _ _ _ _ h => by omega, fun D dp a M κ _ _ _ _ _ _ h => by omega⟩
  | succ f ih =>
    obtain ⟨i0, i1, i2, i3, i4, i5⟩ := ih
    exact ⟨rr_held_86 hT hrd hsd hL h15 hs i1, rr_sum_86 hT hrd hL h15 hs i3 i2, rr_sumL_86 hT hrd hsd hL h15 hs i3 i2, rr_prod_86 hT hrd hL h15 hs i5 i4, rr_prodL_86 hT hrd hsd hL h15 hs i5 i4, rr_thing_86 hT hrd hsd hL h15 hs hE i5 i0⟩
end ZThing
