/-! THE RULE read and valued by the reference. -/
theorem z_wrO (a : Int) : Int32.ofInt (wr a) = Int32.ofInt a := by rw [← wrE, z_ofN]
theorem wr_add2 {a b x y : Int} (h1 : wr a = wr x) (h2 : wr b = wr y) : wr (a + b) = wr (x + y) := by
  rw [← wrE, ← wrE, Int32.ofInt_add, Int32.ofInt_add, ← z_wrO a, ← z_wrO b, ← z_wrO x, ← z_wrO y, h1, h2]
theorem wr_sub2 {a b x y : Int} (h1 : wr a = wr x) (h2 : wr b = wr y) : wr (a - b) = wr (x - y) := by
  rw [← wrE, ← wrE, Int32.ofInt_sub, Int32.ofInt_sub, ← z_wrO a, ← z_wrO b, ← z_wrO x, ← z_wrO y, h1, h2]
theorem wr_mul2 {a b x y : Int} (h1 : wr a = wr x) (h2 : wr b = wr y) : wr (a * b) = wr (x * y) := by
  rw [← wrE, ← wrE, Int32.ofInt_mul, Int32.ofInt_mul, ← z_wrO a, ← z_wrO b, ← z_wrO x, ← z_wrO y, h1, h2]
theorem z_and255 (b : Int) : z_and b 255 = b % 256 := by
  have e1 : (Int32.ofInt b &&& Int32.ofInt 255).toBitVec.toNat = (Int32.ofInt b).toBitVec.toNat % 256 := by
    rw [Int32.toBitVec_and, BitVec.toNat_and, show (Int32.ofInt 255).toBitVec.toNat = 2 ^ 8 - 1 from by decide, Nat.and_two_pow_sub_one_eq_mod]
  have e2 := s_ofnat (z := (Int32.ofInt b &&& Int32.ofInt 255)) (by omega)
  have e3 := z_natS b
  unfold z_and
  omega
/-- the signs that the reference reads -/
noncomputable def sgR (m : zM) (q : Nat) (a : Nat) : Int := if (a : Int) < m 74 14 ∧ (a : Int) < m 74 15 then z_and (m q a) 255 else -1
noncomputable def pW (c j : Nat) : Bool := Nat.beq c 74 && (Nat.beq j 16 || Nat.beq j 17)
noncomputable def envR (m : zM) : zEnv := if m 74 26 = 0 then (0, 0, 0, 0, 0) else (m 74 28, m 76 (26 * m 74 29 + Int.tmod (m 74 30) (m 77 (m 74 29).toNat)).toNat, m 74 30, m 74 29, m 74 27)
noncomputable def okEnv (m : zM) : Prop := m 74 26 = 0 ∨ ((0 ≤ m 74 29 ∧ m 74 29 ≤ 3) ∧ (0 ≤ m 74 30 ∧ m 74 30 ≤ 500000) ∧ 1 ≤ m 77 (m 74 29).toNat)
noncomputable def RK (κ : Option zA → zM → Prop) (m : zM) (e : zEnv) (r : rP) : Prop := match r with
  | .inl x => ∀ (v : Int) (M : zM), (-2147483648 ≤ v ∧ v ≤ 2147483647) → zB M → zFr pW m M → M 74 17 = (x : Int) → κ (some (zi v)) M
  | .inr q => ∀ (M : zM), zB M → zFr pW m M → M 74 16 = (q.1 : Int) → M 74 17 = -1 → κ (some (zi (q.2 e))) M
noncomputable def Rs (T : Nat → Nat → zG → (Option zA → zM → Prop) → Prop) (m : zM) (s : Nat → Int) (L k kd c f : Nat) : Prop := ∀ (D dp a : Nat) (M : zM) (κ : Option zA → zM → Prop), dp ≤ 4 → zB M → zFr pW m M → M 74 16 = (a : Int) → M 74 17 = -1 → a ≤ L → 4 * (L - a) + c ≤ f → RK κ m (envR m) (rp s f kd dp a e0f) → T (D + f + 4) k (0, [(0, zr 74), (1, zi (dp : Int))], [], M) κ
noncomputable def Rl (T : Nat → Nat → zG → (Option zA → zM → Prop) → Prop) (m : zM) (s : Nat → Int) (L k kd f : Nat) : Prop := ∀ (D dp a : Nat) (M : zM) (κ : Option zA → zM → Prop) (v : Int) (acc : zEnv → Int), dp ≤ 4 → zB M → zFr pW m M → M 74 16 = (a : Int) → M 74 17 = -1 → a ≤ L → 4 * (L - a) + 1 ≤ f → (∀ e, wr (acc e) = acc e) → wr v = acc (envR m) → RK κ m (envR m) (rp s f kd dp a acc) → T (D + f + 4) k (6, [(0, zr 74), (1, zi (dp : Int)), (2, zi v)], [], M) κ
theorem wrR {v : Int} (h : wr v = v) : -2147483648 ≤ v ∧ v ≤ 2147483647 := by
  have := wrB v
  omega
theorem hr_s {m M : zM} {a q : Nat} (hq : q ≠ 74) (hF : zFr pW m M) (h16 : M 74 16 = (a : Int)) : hrR M q = sgR m q a := by
  have e14 : M 74 14 = m 74 14 := hF 74 14 rfl
  have e15 : M 74 15 = m 74 15 := hF 74 15 rfl
  have eq : M q a = m q a := hF q a (by
    simp only [pW, q_beqF hq, Bool.false_and])
  unfold hrR sgR
  rw [h16, e14, e15, Int.toNat_natCast, eq]
section ZRule
variable {T : Nat → Nat → zG → (Option zA → zM → Prop) → Prop} {m : zM} {s : Nat → Int} {L f : Nat}
theorem rr_held_80 (hT : zRules T) (hrd : m 74 13 = 80) (hsd : s = sgR m 80) (hL : L ≤ 80) (h15 : m 74 15 ≤ 80) (hs : ∀ a, L ≤ a → s a = -1) (h1 : Rs T m s L 209 1 3 f) : Rs T m s L 208 0 4 (f + 1) := by
  intro D dp a M κ hdp hBM hF h16 h17 ha hf hκ
  have hlt : ∀ a, ¬ s a = -1 → a < L := fun a h => by
    rcases Nat.lt_or_ge a L with q | q
    · exact q
    · exact absurd (hs a q) h
  refine zb208_0_80 hT hBM ((hF 74 13 rfl).trans hrd) hdp (by omega) (by omega) (by have e15 := hF 74 15 rfl; have b15 : 0 ≤ M 74 15 ∧ M 74 15 ≤ 80 := hBM 74 15; omega) ?_
  refine h1 D dp a M _ hdp hBM hF h16 h17 ha (by omega) ?_
  rw [rp, if_pos rfl] at hκ
  have hok := rp_ok hs f 1 dp a e0f ha (fun _ => rfl)
  revert hκ hok
  cases rp s f 1 dp a e0f with
  | inl x =>
    intro hκ hok v M1 hv hB1 hF1 hx
    have := hok.2
    exact zb208_5_80f hT rfl hB1 ((hF1 74 13 rfl).trans hrd) hdp hv (by omega) (hκ v M1 hv hB1 hF1 hx)
  | inr y =>
    obtain ⟨b, v⟩ := y
    intro hκ hok M1 hB1 hF1 g16 g17
    dsimp only [rb] at hκ
    dsimp only at g16
    obtain ⟨⟨o1, o2, o3⟩, o4⟩ := hok
    dsimp only at o1 o2 o3 o4
    have o3 := o3 (by omega) (by omega)
    have hv := wrR (o4 (envR m))
    have hr : hrR M1 80 = s b := by rw [hsd]; exact hr_s (by omega) hF1 g16
    have n16 : (zu M1 74 16 (M1 74 16 + 1)) 74 16 = ((b + 1 : Nat) : Int) := by rw [zu_sm rfl]; omega
    have n17 : (zu M1 74 16 (M1 74 16 + 1)) 74 17 = -1 := by rw [zu_off (by omega)]; exact g17
    refine zb208_5_80 hT rfl hB1 ((hF1 74 13 rfl).trans hrd) hdp hv (by omega) (by omega) (by have e15 := hF1 74 15 rfl; have b15 : 0 ≤ M1 74 15 ∧ M1 74 15 ≤ 80 := hB1 74 15; omega) (fun c1 hz => ?_) (fun c1 c2 hz => ?_) (fun c1 c2 c3 hz => ?_) (fun c1 c2 c3 => ?_)
    · rw [hr] at c1
      rw [if_pos c1] at hκ
      have hbL := hlt b (by omega)
      have hok2 := rp_ok hs f 1 dp (b + 1) e0f hbL (fun _ => rfl)
      refine h1 D dp (b + 1) _ _ hdp hz (hF1.set rfl) n16 n17 hbL (by omega) ?_
      revert hκ hok2
      cases rp s f 1 dp (b + 1) e0f with
      | inl x =>
        intro hκ hok2 w M2 hw hB2 hF2 hx
        exact zb208_21_80 hT rfl hv hw (fun _ => hκ 0 M2 (by omega) hB2 hF2 hx) (fun _ => hκ 1 M2 (by omega) hB2 hF2 hx)
      | inr y =>
        obtain ⟨c, w⟩ := y
        intro hκ hok2 M2 hB2 hF2 i16 i17
        have hw := wrR (hok2.2 (envR m))
        have hk := hκ M2 hB2 hF2 i16 i17
        dsimp only at hk
        refine zb208_21_80 hT rfl hv hw (fun q => ?_) (fun q => ?_)
        · rw [if_neg q] at hk; exact hk
        · rw [if_pos q] at hk; exact hk
    · rw [hr] at c1 c2
      rw [if_neg c1, if_pos c2] at hκ
      have hbL := hlt b (by omega)
      have hok2 := rp_ok hs f 1 dp (b + 1) e0f hbL (fun _ => rfl)
      refine h1 D dp (b + 1) _ _ hdp hz (hF1.set rfl) n16 n17 hbL (by omega) ?_
      revert hκ hok2
      cases rp s f 1 dp (b + 1) e0f with
      | inl x =>
        intro hκ hok2 w M2 hw hB2 hF2 hx
        exact zb208_45_80 hT rfl hv hw (fun _ => hκ 0 M2 (by omega) hB2 hF2 hx) (fun _ => hκ 1 M2 (by omega) hB2 hF2 hx)
      | inr y =>
        obtain ⟨c, w⟩ := y
        intro hκ hok2 M2 hB2 hF2 i16 i17
        have hw := wrR (hok2.2 (envR m))
        have hk := hκ M2 hB2 hF2 i16 i17
        dsimp only at hk
        refine zb208_45_80 hT rfl hv hw (fun q => ?_) (fun q => ?_)
        · rw [if_neg q] at hk; exact hk
        · rw [if_pos q] at hk; exact hk
    · rw [hr] at c1 c2 c3
      rw [if_neg c1, if_neg c2, if_pos c3] at hκ
      have hbL := hlt b (by omega)
      have hok2 := rp_ok hs f 1 dp (b + 1) e0f hbL (fun _ => rfl)
      refine h1 D dp (b + 1) _ _ hdp hz (hF1.set rfl) n16 n17 hbL (by omega) ?_
      revert hκ hok2
      cases rp s f 1 dp (b + 1) e0f with
      | inl x =>
        intro hκ hok2 w M2 hw hB2 hF2 hx
        exact zb208_69_80 hT rfl hv hw (fun _ => hκ 0 M2 (by omega) hB2 hF2 hx) (fun _ => hκ 1 M2 (by omega) hB2 hF2 hx)
      | inr y =>
        obtain ⟨c, w⟩ := y
        intro hκ hok2 M2 hB2 hF2 i16 i17
        have hw := wrR (hok2.2 (envR m))
        have hk := hκ M2 hB2 hF2 i16 i17
        dsimp only at hk
        refine zb208_69_80 hT rfl hv hw (fun q => ?_) (fun q => ?_)
        · rw [if_neg q] at hk; exact hk
        · rw [if_pos q] at hk; exact hk
    · rw [hr] at c1 c2 c3
      rw [if_neg c1, if_neg c2, if_neg c3] at hκ
      exact hκ M1 hB1 hF1 g16 g17
theorem rr_sum_80 (hT : zRules T) (hrd : m 74 13 = 80) (hL : L ≤ 80) (h15 : m 74 15 ≤ 80) (hs : ∀ a, L ≤ a → s a = -1) (h3 : Rs T m s L 210 3 2 f) (h2 : Rl T m s L 209 2 f) : Rs T m s L 209 1 3 (f + 1) := by
  intro D dp a M κ hdp hBM hF h16 h17 ha hf hκ
  refine zb209_0_80 hT hBM ((hF 74 13 rfl).trans hrd) hdp (by omega) (by omega) (by have e15 := hF 74 15 rfl; have b15 : 0 ≤ M 74 15 ∧ M 74 15 ≤ 80 := hBM 74 15; omega) ?_
  refine h3 D dp a M _ hdp hBM hF h16 h17 ha (by omega) ?_
  rw [rp, if_neg (by omega), if_pos rfl] at hκ
  have hok := rp_ok hs f 3 dp a e0f ha (fun _ => rfl)
  revert hκ hok
  cases rp s f 3 dp a e0f with
  | inl x =>
    intro hκ hok v M1 hv hB1 hF1 hx
    have := hok.2
    refine zb209_5_80 hT rfl hdp ?_
    refine zb209_6_80f hT rfl hB1 ((hF1 74 13 rfl).trans hrd) hdp (by omega) ?_
    rw [wr_id hv.1 hv.2]
    exact hκ v M1 hv hB1 hF1 hx
  | inr y =>
    obtain ⟨b, v⟩ := y
    intro hκ hok M1 hB1 hF1 g16 g17
    obtain ⟨⟨o1, o2, o3⟩, o4⟩ := hok
    have o3 := o3 (by omega) (by omega)
    dsimp only at o1 o2 o3 o4 g16
    refine zb209_5_80 hT rfl hdp ?_
    rw [show D + (f + 1) + 4 = D + 1 + f + 4 by omega]
    exact h2 (D + 1) dp b M1 κ _ v hdp hB1 hF1 g16 g17 o2 (by omega) o4 (o4 _) hκ
theorem rr_sumL_80 (hT : zRules T) (hrd : m 74 13 = 80) (hsd : s = sgR m 80) (hL : L ≤ 80) (h15 : m 74 15 ≤ 80) (hs : ∀ a, L ≤ a → s a = -1) (h3 : Rs T m s L 210 3 2 f) (h2 : Rl T m s L 209 2 f) : Rl T m s L 209 2 (f + 1) := by
  intro D dp a M κ v acc hdp hBM hF h16 h17 ha hf hacc hv hκ
  have hlt : ∀ a, ¬ s a = -1 → a < L := fun a h => by
    rcases Nat.lt_or_ge a L with q | q
    · exact q
    · exact absurd (hs a q) h
  have hr : hrR M 80 = s a := by rw [hsd]; exact hr_s (by omega) hF h16
  have n16 : (zu M 74 16 (M 74 16 + 1)) 74 16 = ((a + 1 : Nat) : Int) := by rw [zu_sm rfl]; omega
  have n17 : (zu M 74 16 (M 74 16 + 1)) 74 17 = -1 := by rw [zu_off (by omega)]; exact h17
  rw [rp, if_neg (by omega), if_neg (by omega), if_pos rfl] at hκ
  refine zb209_6_80 hT rfl hBM ((hF 74 13 rfl).trans hrd) hdp (by omega) (by omega) (by have e15 := hF 74 15 rfl; have b15 : 0 ≤ M 74 15 ∧ M 74 15 ≤ 80 := hBM 74 15; omega) (fun c1 hz => ?_) (fun c1 c2 => ?_) (fun c1 c2 hz => ?_)
  · rw [hr] at c1
    rw [if_pos c1] at hκ
    have haL := hlt a (by omega)
    have hok := rp_ok hs f 3 dp (a + 1) e0f haL (fun _ => rfl)
    refine h3 D dp (a + 1) _ _ hdp hz (hF.set rfl) n16 n17 haL (by omega) ?_
    revert hκ hok
    cases rp s f 3 dp (a + 1) e0f with
    | inl x =>
      intro hκ hok w M1 hw hB1 hF1 hx
      have := hok.2
      refine zb209_61_80 hT rfl hdp (by omega) (fun q => by omega) (fun _ => ?_)
      exact zb209_6_80f hT rfl hB1 ((hF1 74 13 rfl).trans hrd) hdp (by omega) (hκ _ M1 (wrB _) hB1 hF1 hx)
    | inr y =>
      obtain ⟨b, w⟩ := y
      intro hκ hok M1 hB1 hF1 g16 g17
      obtain ⟨⟨o1, o2, o3⟩, o4⟩ := hok
      dsimp only at o1 o2 o3 o4 g16
      refine zb209_61_80 hT rfl hdp (by omega) (fun q => by omega) (fun _ => ?_)
      rw [show D + (f + 1) + 4 = D + 1 + f + 4 by omega]
      refine h2 (D + 1) dp b M1 κ _ _ hdp hB1 hF1 g16 g17 o2 (by omega) (fun e => wr_wr _) ?_ hκ
      exact wr_add2 (by rw [hv, hacc]) rfl
  · rw [hr] at c1 c2
    rw [if_neg c1, if_neg c2] at hκ
    rw [hv]
    exact hκ M hBM hF h16 h17
  · rw [hr] at c1 c2
    rw [if_neg c1, if_pos c2] at hκ
    have haL := hlt a (by omega)
    have hok := rp_ok hs f 3 dp (a + 1) e0f haL (fun _ => rfl)
    refine h3 D dp (a + 1) _ _ hdp hz (hF.set rfl) n16 n17 haL (by omega) ?_
    revert hκ hok
    cases rp s f 3 dp (a + 1) e0f with
    | inl x =>
      intro hκ hok w M1 hw hB1 hF1 hx
      have := hok.2
      refine zb209_61_80 hT rfl hdp (by omega) (fun _ => ?_) (fun q => by omega)
      exact zb209_6_80f hT rfl hB1 ((hF1 74 13 rfl).trans hrd) hdp (by omega) (hκ _ M1 (wrB _) hB1 hF1 hx)
    | inr y =>
      obtain ⟨b, w⟩ := y
      intro hκ hok M1 hB1 hF1 g16 g17
      obtain ⟨⟨o1, o2, o3⟩, o4⟩ := hok
      dsimp only at o1 o2 o3 o4 g16
      refine zb209_61_80 hT rfl hdp (by omega) (fun _ => ?_) (fun q => by omega)
      rw [show D + (f + 1) + 4 = D + 1 + f + 4 by omega]
      refine h2 (D + 1) dp b M1 κ _ _ hdp hB1 hF1 g16 g17 o2 (by omega) (fun e => wr_wr _) ?_ hκ
      exact wr_sub2 (by rw [hv, hacc]) rfl
theorem rr_prod_80 (hT : zRules T) (hrd : m 74 13 = 80) (hL : L ≤ 80) (h15 : m 74 15 ≤ 80) (hs : ∀ a, L ≤ a → s a = -1) (h5 : Rs T m s L 211 5 1 f) (h4 : Rl T m s L 210 4 f) : Rs T m s L 210 3 2 (f + 1) := by
  intro D dp a M κ hdp hBM hF h16 h17 ha hf hκ
  refine zb210_0_80 hT hBM ((hF 74 13 rfl).trans hrd) hdp (by omega) (by omega) (by have e15 := hF 74 15 rfl; have b15 : 0 ≤ M 74 15 ∧ M 74 15 ≤ 80 := hBM 74 15; omega) ?_
  refine h5 D dp a M _ hdp hBM hF h16 h17 ha (by omega) ?_
  rw [rp, if_neg (by omega), if_neg (by omega), if_neg (by omega), if_pos rfl] at hκ
  have hok := rp_ok hs f 5 dp a e0f ha (fun _ => rfl)
  revert hκ hok
  cases rp s f 5 dp a e0f with
  | inl x =>
    intro hκ hok v M1 hv hB1 hF1 hx
    have := hok.2
    refine zb210_5_80 hT rfl hdp ?_
    refine zb210_6_80f hT rfl hB1 ((hF1 74 13 rfl).trans hrd) hdp (by omega) ?_
    rw [wr_id hv.1 hv.2]
    exact hκ v M1 hv hB1 hF1 hx
  | inr y =>
    obtain ⟨b, v⟩ := y
    intro hκ hok M1 hB1 hF1 g16 g17
    obtain ⟨⟨o1, o2, o3⟩, o4⟩ := hok
    have o3 := o3 (by omega) (by omega)
    dsimp only at o1 o2 o3 o4 g16
    refine zb210_5_80 hT rfl hdp ?_
    rw [show D + (f + 1) + 4 = D + 1 + f + 4 by omega]
    exact h4 (D + 1) dp b M1 κ _ v hdp hB1 hF1 g16 g17 o2 (by omega) o4 (o4 _) hκ
theorem rr_prodL_80 (hT : zRules T) (hrd : m 74 13 = 80) (hsd : s = sgR m 80) (hL : L ≤ 80) (h15 : m 74 15 ≤ 80) (hs : ∀ a, L ≤ a → s a = -1) (h5 : Rs T m s L 211 5 1 f) (h4 : Rl T m s L 210 4 f) : Rl T m s L 210 4 (f + 1) := by
  intro D dp a M κ v acc hdp hBM hF h16 h17 ha hf hacc hv hκ
  have hlt : ∀ a, ¬ s a = -1 → a < L := fun a h => by
    rcases Nat.lt_or_ge a L with q | q
    · exact q
    · exact absurd (hs a q) h
  have hr : hrR M 80 = s a := by rw [hsd]; exact hr_s (by omega) hF h16
  have n16 : (zu M 74 16 (M 74 16 + 1)) 74 16 = ((a + 1 : Nat) : Int) := by rw [zu_sm rfl]; omega
  have n17 : (zu M 74 16 (M 74 16 + 1)) 74 17 = -1 := by rw [zu_off (by omega)]; exact h17
  rw [rp, if_neg (by omega), if_neg (by omega), if_neg (by omega), if_neg (by omega), if_pos rfl] at hκ
  refine zb210_6_80 hT rfl hBM ((hF 74 13 rfl).trans hrd) hdp (by omega) (by omega) (by have e15 := hF 74 15 rfl; have b15 : 0 ≤ M 74 15 ∧ M 74 15 ≤ 80 := hBM 74 15; omega) (fun c1 hz => ?_) (fun c1 c2 => ?_) (fun c1 c2 hz => ?_)
  · rw [hr] at c1
    rw [if_pos c1] at hκ
    have haL := hlt a (by omega)
    have hok := rp_ok hs f 5 dp (a + 1) e0f haL (fun _ => rfl)
    refine h5 D dp (a + 1) _ _ hdp hz (hF.set rfl) n16 n17 haL (by omega) ?_
    revert hκ hok
    cases rp s f 5 dp (a + 1) e0f with
    | inl x =>
      intro hκ hok w M1 hw hB1 hF1 hx
      have := hok.2
      refine zb210_61_80 hT rfl hdp (by omega) (fun q => by omega) (fun q => by omega) (fun _ => ?_)
      exact zb210_6_80f hT rfl hB1 ((hF1 74 13 rfl).trans hrd) hdp (by omega) (hκ _ M1 (wrB _) hB1 hF1 hx)
    | inr y =>
      obtain ⟨b, w⟩ := y
      intro hκ hok M1 hB1 hF1 g16 g17
      obtain ⟨⟨o1, o2, o3⟩, o4⟩ := hok
      dsimp only at o1 o2 o3 o4 g16
      refine zb210_61_80 hT rfl hdp (by omega) (fun q => by omega) (fun q => by omega) (fun _ => ?_)
      rw [show D + (f + 1) + 4 = D + 1 + f + 4 by omega]
      refine h4 (D + 1) dp b M1 κ _ _ hdp hB1 hF1 g16 g17 o2 (by omega) (fun e => wr_wr _) ?_ hκ
      exact wr_mul2 (by rw [hv, hacc]) rfl
  · rw [hr] at c1 c2
    rw [if_neg c1, if_neg c2] at hκ
    rw [hv]
    exact hκ M hBM hF h16 h17
  · rw [hr] at c1 c2
    rw [if_neg c1, if_pos c2] at hκ
    have haL := hlt a (by omega)
    have hok := rp_ok hs f 5 dp (a + 1) e0f haL (fun _ => rfl)
    refine h5 D dp (a + 1) _ _ hdp hz (hF.set rfl) n16 n17 haL (by omega) ?_
    revert hκ hok
    cases rp s f 5 dp (a + 1) e0f with
    | inl x =>
      intro hκ hok w M1 hw hB1 hF1 hx
      have := hok.2
      refine zb210_61_80 hT rfl hdp (by omega) (fun _ _ => ?_) (fun _ _ => ?_) (fun q => by omega)
      · exact zb210_6_80f hT rfl hB1 ((hF1 74 13 rfl).trans hrd) hdp (by omega) (hκ _ M1 (wrB _) hB1 hF1 hx)
      · exact zb210_6_80f hT rfl hB1 ((hF1 74 13 rfl).trans hrd) hdp (by omega) (hκ _ M1 (wrB _) hB1 hF1 hx)
    | inr y =>
      obtain ⟨b, w⟩ := y
      intro hκ hok M1 hB1 hF1 g16 g17
      obtain ⟨⟨o1, o2, o3⟩, o4⟩ := hok
      dsimp only at o1 o2 o3 o4 g16
      have hn : ∀ e, wr (if w e = 0 then (0 : Int) else wr (Int.tdiv (acc e) (w e))) = if w e = 0 then 0 else wr (Int.tdiv (acc e) (w e)) := fun e => by
        split
        · rfl
        · exact wr_wr _
      refine zb210_61_80 hT rfl hdp (by omega) (fun _ hw0 => ?_) (fun _ hw0 => ?_) (fun q => by omega)
      · rw [show D + (f + 1) + 4 = D + 1 + f + 4 by omega]
        refine h4 (D + 1) dp b M1 κ _ _ hdp hB1 hF1 g16 g17 o2 (by omega) hn ?_ hκ
        rw [o4] at hw0
        dsimp only
        rw [if_neg hw0, hv, o4]
      · rw [show D + (f + 1) + 4 = D + 1 + f + 4 by omega]
        refine h4 (D + 1) dp b M1 κ _ _ hdp hB1 hF1 g16 g17 o2 (by omega) hn ?_ hκ
        rw [o4] at hw0
        rw [if_pos hw0]
        rfl
theorem rr_held_86 (hT : zRules T) (hrd : m 74 13 = 86) (hsd : s = sgR m 86) (hL : L ≤ 40) (h15 : m 74 15 ≤ 40) (hs : ∀ a, L ≤ a → s a = -1) (h1 : Rs T m s L 209 1 3 f) : Rs T m s L 208 0 4 (f + 1) := by
  intro D dp a M κ hdp hBM hF h16 h17 ha hf hκ
  have hlt : ∀ a, ¬ s a = -1 → a < L := fun a h => by
    rcases Nat.lt_or_ge a L with q | q
    · exact q
    · exact absurd (hs a q) h
  refine zb208_0_86 hT hBM ((hF 74 13 rfl).trans hrd) hdp (by omega) (by omega) (by have e15 := hF 74 15 rfl; have b15 : 0 ≤ M 74 15 ∧ M 74 15 ≤ 80 := hBM 74 15; omega) ?_
  refine h1 D dp a M _ hdp hBM hF h16 h17 ha (by omega) ?_
  rw [rp, if_pos rfl] at hκ
  have hok := rp_ok hs f 1 dp a e0f ha (fun _ => rfl)
  revert hκ hok
  cases rp s f 1 dp a e0f with
  | inl x =>
    intro hκ hok v M1 hv hB1 hF1 hx
    have := hok.2
    exact zb208_5_86f hT rfl hB1 ((hF1 74 13 rfl).trans hrd) hdp hv (by omega) (hκ v M1 hv hB1 hF1 hx)
  | inr y =>
    obtain ⟨b, v⟩ := y
    intro hκ hok M1 hB1 hF1 g16 g17
    dsimp only [rb] at hκ
    dsimp only at g16
    obtain ⟨⟨o1, o2, o3⟩, o4⟩ := hok
    dsimp only at o1 o2 o3 o4
    have o3 := o3 (by omega) (by omega)
    have hv := wrR (o4 (envR m))
    have hr : hrR M1 86 = s b := by rw [hsd]; exact hr_s (by omega) hF1 g16
    have n16 : (zu M1 74 16 (M1 74 16 + 1)) 74 16 = ((b + 1 : Nat) : Int) := by rw [zu_sm rfl]; omega
    have n17 : (zu M1 74 16 (M1 74 16 + 1)) 74 17 = -1 := by rw [zu_off (by omega)]; exact g17
    refine zb208_5_86 hT rfl hB1 ((hF1 74 13 rfl).trans hrd) hdp hv (by omega) (by omega) (by have e15 := hF1 74 15 rfl; have b15 : 0 ≤ M1 74 15 ∧ M1 74 15 ≤ 80 := hB1 74 15; omega) (fun c1 hz => ?_) (fun c1 c2 hz => ?_) (fun c1 c2 c3 hz => ?_) (fun c1 c2 c3 => ?_)
    · rw [hr] at c1
      rw [if_pos c1] at hκ
      have hbL := hlt b (by omega)
      have hok2 := rp_ok hs f 1 dp (b + 1) e0f hbL (fun _ => rfl)
      refine h1 D dp (b + 1) _ _ hdp hz (hF1.set rfl) n16 n17 hbL (by omega) ?_
      revert hκ hok2
      cases rp s f 1 dp (b + 1) e0f with
      | inl x =>
        intro hκ hok2 w M2 hw hB2 hF2 hx
        exact zb208_21_86 hT rfl hv hw (fun _ => hκ 0 M2 (by omega) hB2 hF2 hx) (fun _ => hκ 1 M2 (by omega) hB2 hF2 hx)
      | inr y =>
        obtain ⟨c, w⟩ := y
        intro hκ hok2 M2 hB2 hF2 i16 i17
        have hw := wrR (hok2.2 (envR m))
        have hk := hκ M2 hB2 hF2 i16 i17
        dsimp only at hk
        refine zb208_21_86 hT rfl hv hw (fun q => ?_) (fun q => ?_)
        · rw [if_neg q] at hk; exact hk
        · rw [if_pos q] at hk; exact hk
    · rw [hr] at c1 c2
      rw [if_neg c1, if_pos c2] at hκ
      have hbL := hlt b (by omega)
      have hok2 := rp_ok hs f 1 dp (b + 1) e0f hbL (fun _ => rfl)
      refine h1 D dp (b + 1) _ _ hdp hz (hF1.set rfl) n16 n17 hbL (by omega) ?_
      revert hκ hok2
      cases rp s f 1 dp (b + 1) e0f with
      | inl x =>
        intro hκ hok2 w M2 hw hB2 hF2 hx
        exact zb208_45_86 hT rfl hv hw (fun _ => hκ 0 M2 (by omega) hB2 hF2 hx) (fun _ => hκ 1 M2 (by omega) hB2 hF2 hx)
      | inr y =>
        obtain ⟨c, w⟩ := y
        intro hκ hok2 M2 hB2 hF2 i16 i17
        have hw := wrR (hok2.2 (envR m))
        have hk := hκ M2 hB2 hF2 i16 i17
        dsimp only at hk
        refine zb208_45_86 hT rfl hv hw (fun q => ?_) (fun q => ?_)
        · rw [if_neg q] at hk; exact hk
        · rw [if_pos q] at hk; exact hk
    · rw [hr] at c1 c2 c3
      rw [if_neg c1, if_neg c2, if_pos c3] at hκ
      have hbL := hlt b (by omega)
      have hok2 := rp_ok hs f 1 dp (b + 1) e0f hbL (fun _ => rfl)
      refine h1 D dp (b + 1) _ _ hdp hz (hF1.set rfl) n16 n17 hbL (by omega) ?_
      revert hκ hok2
      cases rp s f 1 dp (b + 1) e0f with
      | inl x =>
        intro hκ hok2 w M2 hw hB2 hF2 hx
        exact zb208_69_86 hT rfl hv hw (fun _ => hκ 0 M2 (by omega) hB2 hF2 hx) (fun _ => hκ 1 M2 (by omega) hB2 hF2 hx)
      | inr y =>
        obtain ⟨c, w⟩ := y
        intro hκ hok2 M2 hB2 hF2 i16 i17
        have hw := wrR (hok2.2 (envR m))
        have hk := hκ M2 hB2 hF2 i16 i17
        dsimp only at hk
        refine zb208_69_86 hT rfl hv hw (fun q => ?_) (fun q => ?_)
        · rw [if_neg q] at hk; exact hk
        · rw [if_pos q] at hk; exact hk
    · rw [hr] at c1 c2 c3
      rw [if_neg c1, if_neg c2, if_neg c3] at hκ
      exact hκ M1 hB1 hF1 g16 g17
theorem rr_sum_86 (hT : zRules T) (hrd : m 74 13 = 86) (hL : L ≤ 40) (h15 : m 74 15 ≤ 40) (hs : ∀ a, L ≤ a → s a = -1) (h3 : Rs T m s L 210 3 2 f) (h2 : Rl T m s L 209 2 f) : Rs T m s L 209 1 3 (f + 1) := by
  intro D dp a M κ hdp hBM hF h16 h17 ha hf hκ
  refine zb209_0_86 hT hBM ((hF 74 13 rfl).trans hrd) hdp (by omega) (by omega) (by have e15 := hF 74 15 rfl; have b15 : 0 ≤ M 74 15 ∧ M 74 15 ≤ 80 := hBM 74 15; omega) ?_
  refine h3 D dp a M _ hdp hBM hF h16 h17 ha (by omega) ?_
  rw [rp, if_neg (by omega), if_pos rfl] at hκ
  have hok := rp_ok hs f 3 dp a e0f ha (fun _ => rfl)
  revert hκ hok
  cases rp s f 3 dp a e0f with
  | inl x =>
    intro hκ hok v M1 hv hB1 hF1 hx
    have := hok.2
    refine zb209_5_86 hT rfl hdp ?_
    refine zb209_6_86f hT rfl hB1 ((hF1 74 13 rfl).trans hrd) hdp (by omega) ?_
    rw [wr_id hv.1 hv.2]
    exact hκ v M1 hv hB1 hF1 hx
  | inr y =>
    obtain ⟨b, v⟩ := y
    intro hκ hok M1 hB1 hF1 g16 g17
    obtain ⟨⟨o1, o2, o3⟩, o4⟩ := hok
    have o3 := o3 (by omega) (by omega)
    dsimp only at o1 o2 o3 o4 g16
    refine zb209_5_86 hT rfl hdp ?_
    rw [show D + (f + 1) + 4 = D + 1 + f + 4 by omega]
    exact h2 (D + 1) dp b M1 κ _ v hdp hB1 hF1 g16 g17 o2 (by omega) o4 (o4 _) hκ
theorem rr_sumL_86 (hT : zRules T) (hrd : m 74 13 = 86) (hsd : s = sgR m 86) (hL : L ≤ 40) (h15 : m 74 15 ≤ 40) (hs : ∀ a, L ≤ a → s a = -1) (h3 : Rs T m s L 210 3 2 f) (h2 : Rl T m s L 209 2 f) : Rl T m s L 209 2 (f + 1) := by
  intro D dp a M κ v acc hdp hBM hF h16 h17 ha hf hacc hv hκ
  have hlt : ∀ a, ¬ s a = -1 → a < L := fun a h => by
    rcases Nat.lt_or_ge a L with q | q
    · exact q
    · exact absurd (hs a q) h
  have hr : hrR M 86 = s a := by rw [hsd]; exact hr_s (by omega) hF h16
  have n16 : (zu M 74 16 (M 74 16 + 1)) 74 16 = ((a + 1 : Nat) : Int) := by rw [zu_sm rfl]; omega
  have n17 : (zu M 74 16 (M 74 16 + 1)) 74 17 = -1 := by rw [zu_off (by omega)]; exact h17
  rw [rp, if_neg (by omega), if_neg (by omega), if_pos rfl] at hκ
  refine zb209_6_86 hT rfl hBM ((hF 74 13 rfl).trans hrd) hdp (by omega) (by omega) (by have e15 := hF 74 15 rfl; have b15 : 0 ≤ M 74 15 ∧ M 74 15 ≤ 80 := hBM 74 15; omega) (fun c1 hz => ?_) (fun c1 c2 => ?_) (fun c1 c2 hz => ?_)
  · rw [hr] at c1
    rw [if_pos c1] at hκ
    have haL := hlt a (by omega)
    have hok := rp_ok hs f 3 dp (a + 1) e0f haL (fun _ => rfl)
    refine h3 D dp (a + 1) _ _ hdp hz (hF.set rfl) n16 n17 haL (by omega) ?_
    revert hκ hok
    cases rp s f 3 dp (a + 1) e0f with
    | inl x =>
      intro hκ hok w M1 hw hB1 hF1 hx
      have := hok.2
      refine zb209_61_86 hT rfl hdp (by omega) (fun q => by omega) (fun _ => ?_)
      exact zb209_6_86f hT rfl hB1 ((hF1 74 13 rfl).trans hrd) hdp (by omega) (hκ _ M1 (wrB _) hB1 hF1 hx)
    | inr y =>
      obtain ⟨b, w⟩ := y
      intro hκ hok M1 hB1 hF1 g16 g17
      obtain ⟨⟨o1, o2, o3⟩, o4⟩ := hok
      dsimp only at o1 o2 o3 o4 g16
      refine zb209_61_86 hT rfl hdp (by omega) (fun q => by omega) (fun _ => ?_)
      rw [show D + (f + 1) + 4 = D + 1 + f + 4 by omega]
      refine h2 (D + 1) dp b M1 κ _ _ hdp hB1 hF1 g16 g17 o2 (by omega) (fun e => wr_wr _) ?_ hκ
      exact wr_add2 (by rw [hv, hacc]) rfl
  · rw [hr] at c1 c2
    rw [if_neg c1, if_neg c2] at hκ
    rw [hv]
    exact hκ M hBM hF h16 h17
  · rw [hr] at c1 c2
    rw [if_neg c1, if_pos c2] at hκ
    have haL := hlt a (by omega)
    have hok := rp_ok hs f 3 dp (a + 1) e0f haL (fun _ => rfl)
    refine h3 D dp (a + 1) _ _ hdp hz (hF.set rfl) n16 n17 haL (by omega) ?_
    revert hκ hok
    cases rp s f 3 dp (a + 1) e0f with
    | inl x =>
      intro hκ hok w M1 hw hB1 hF1 hx
      have := hok.2
      refine zb209_61_86 hT rfl hdp (by omega) (fun _ => ?_) (fun q => by omega)
      exact zb209_6_86f hT rfl hB1 ((hF1 74 13 rfl).trans hrd) hdp (by omega) (hκ _ M1 (wrB _) hB1 hF1 hx)
    | inr y =>
      obtain ⟨b, w⟩ := y
      intro hκ hok M1 hB1 hF1 g16 g17
      obtain ⟨⟨o1, o2, o3⟩, o4⟩ := hok
      dsimp only at o1 o2 o3 o4 g16
      refine zb209_61_86 hT rfl hdp (by omega) (fun _ => ?_) (fun q => by omega)
      rw [show D + (f + 1) + 4 = D + 1 + f + 4 by omega]
      refine h2 (D + 1) dp b M1 κ _ _ hdp hB1 hF1 g16 g17 o2 (by omega) (fun e => wr_wr _) ?_ hκ
      exact wr_sub2 (by rw [hv, hacc]) rfl
theorem rr_prod_86 (hT : zRules T) (hrd : m 74 13 = 86) (hL : L ≤ 40) (h15 : m 74 15 ≤ 40) (hs : ∀ a, L ≤ a → s a = -1) (h5 : Rs T m s L 211 5 1 f) (h4 : Rl T m s L 210 4 f) : Rs T m s L 210 3 2 (f + 1) := by
  intro D dp a M κ hdp hBM hF h16 h17 ha hf hκ
  refine zb210_0_86 hT hBM ((hF 74 13 rfl).trans hrd) hdp (by omega) (by omega) (by have e15 := hF 74 15 rfl; have b15 : 0 ≤ M 74 15 ∧ M 74 15 ≤ 80 := hBM 74 15; omega) ?_
  refine h5 D dp a M _ hdp hBM hF h16 h17 ha (by omega) ?_
  rw [rp, if_neg (by omega), if_neg (by omega), if_neg (by omega), if_pos rfl] at hκ
  have hok := rp_ok hs f 5 dp a e0f ha (fun _ => rfl)
  revert hκ hok
  cases rp s f 5 dp a e0f with
  | inl x =>
    intro hκ hok v M1 hv hB1 hF1 hx
    have := hok.2
    refine zb210_5_86 hT rfl hdp ?_
    refine zb210_6_86f hT rfl hB1 ((hF1 74 13 rfl).trans hrd) hdp (by omega) ?_
    rw [wr_id hv.1 hv.2]
    exact hκ v M1 hv hB1 hF1 hx
  | inr y =>
    obtain ⟨b, v⟩ := y
    intro hκ hok M1 hB1 hF1 g16 g17
    obtain ⟨⟨o1, o2, o3⟩, o4⟩ := hok
    have o3 := o3 (by omega) (by omega)
    dsimp only at o1 o2 o3 o4 g16
    refine zb210_5_86 hT rfl hdp ?_
    rw [show D + (f + 1) + 4 = D + 1 + f + 4 by omega]
    exact h4 (D + 1) dp b M1 κ _ v hdp hB1 hF1 g16 g17 o2 (by omega) o4 (o4 _) hκ
theorem rr_prodL_86 (hT : zRules T) (hrd : m 74 13 = 86) (hsd : s = sgR m 86) (hL : L ≤ 40) (h15 : m 74 15 ≤ 40) (hs : ∀ a, L ≤ a → s a = -1) (h5 : Rs T m s L 211 5 1 f) (h4 : Rl T m s L 210 4 f) : Rl T m s L 210 4 (f + 1) := by
  intro D dp a M κ v acc hdp hBM hF h16 h17 ha hf hacc hv hκ
  have hlt : ∀ a, ¬ s a = -1 → a < L := fun a h => by
    rcases Nat.lt_or_ge a L with q | q
    · exact q
    · exact absurd (hs a q) h
  have hr : hrR M 86 = s a := by rw [hsd]; exact hr_s (by omega) hF h16
  have n16 : (zu M 74 16 (M 74 16 + 1)) 74 16 = ((a + 1 : Nat) : Int) := by rw [zu_sm rfl]; omega
  have n17 : (zu M 74 16 (M 74 16 + 1)) 74 17 = -1 := by rw [zu_off (by omega)]; exact h17
  rw [rp, if_neg (by omega), if_neg (by omega), if_neg (by omega), if_neg (by omega), if_pos rfl] at hκ
  refine zb210_6_86 hT rfl hBM ((hF 74 13 rfl).trans hrd) hdp (by omega) (by omega) (by have e15 := hF 74 15 rfl; have b15 : 0 ≤ M 74 15 ∧ M 74 15 ≤ 80 := hBM 74 15; omega) (fun c1 hz => ?_) (fun c1 c2 => ?_) (fun c1 c2 hz => ?_)
  · rw [hr] at c1
    rw [if_pos c1] at hκ
    have haL := hlt a (by omega)
    have hok := rp_ok hs f 5 dp (a + 1) e0f haL (fun _ => rfl)
    refine h5 D dp (a + 1) _ _ hdp hz (hF.set rfl) n16 n17 haL (by omega) ?_
    revert hκ hok
    cases rp s f 5 dp (a + 1) e0f with
    | inl x =>
      intro hκ hok w M1 hw hB1 hF1 hx
      have := hok.2
      refine zb210_61_86 hT rfl hdp (by omega) (fun q => by omega) (fun q => by omega) (fun _ => ?_)
      exact zb210_6_86f hT rfl hB1 ((hF1 74 13 rfl).trans hrd) hdp (by omega) (hκ _ M1 (wrB _) hB1 hF1 hx)
    | inr y =>
      obtain ⟨b, w⟩ := y
      intro hκ hok M1 hB1 hF1 g16 g17
      obtain ⟨⟨o1, o2, o3⟩, o4⟩ := hok
      dsimp only at o1 o2 o3 o4 g16
      refine zb210_61_86 hT rfl hdp (by omega) (fun q => by omega) (fun q => by omega) (fun _ => ?_)
      rw [show D + (f + 1) + 4 = D + 1 + f + 4 by omega]
      refine h4 (D + 1) dp b M1 κ _ _ hdp hB1 hF1 g16 g17 o2 (by omega) (fun e => wr_wr _) ?_ hκ
      exact wr_mul2 (by rw [hv, hacc]) rfl
  · rw [hr] at c1 c2
    rw [if_neg c1, if_neg c2] at hκ
    rw [hv]
    exact hκ M hBM hF h16 h17
  · rw [hr] at c1 c2
    rw [if_neg c1, if_pos c2] at hκ
    have haL := hlt a (by omega)
    have hok := rp_ok hs f 5 dp (a + 1) e0f haL (fun _ => rfl)
    refine h5 D dp (a + 1) _ _ hdp hz (hF.set rfl) n16 n17 haL (by omega) ?_
    revert hκ hok
    cases rp s f 5 dp (a + 1) e0f with
    | inl x =>
      intro hκ hok w M1 hw hB1 hF1 hx
      have := hok.2
      refine zb210_61_86 hT rfl hdp (by omega) (fun _ _ => ?_) (fun _ _ => ?_) (fun q => by omega)
      · exact zb210_6_86f hT rfl hB1 ((hF1 74 13 rfl).trans hrd) hdp (by omega) (hκ _ M1 (wrB _) hB1 hF1 hx)
      · exact zb210_6_86f hT rfl hB1 ((hF1 74 13 rfl).trans hrd) hdp (by omega) (hκ _ M1 (wrB _) hB1 hF1 hx)
    | inr y =>
      obtain ⟨b, w⟩ := y
      intro hκ hok M1 hB1 hF1 g16 g17
      obtain ⟨⟨o1, o2, o3⟩, o4⟩ := hok
      dsimp only at o1 o2 o3 o4 g16
      have hn : ∀ e, wr (if w e = 0 then (0 : Int) else wr (Int.tdiv (acc e) (w e))) = if w e = 0 then 0 else wr (Int.tdiv (acc e) (w e)) := fun e => by
        split
        · rfl
        · exact wr_wr _
      refine zb210_61_86 hT rfl hdp (by omega) (fun _ hw0 => ?_) (fun _ hw0 => ?_) (fun q => by omega)
      · rw [show D + (f + 1) + 4 = D + 1 + f + 4 by omega]
        refine h4 (D + 1) dp b M1 κ _ _ hdp hB1 hF1 g16 g17 o2 (by omega) hn ?_ hκ
        rw [o4] at hw0
        dsimp only
        rw [if_neg hw0, hv, o4]
      · rw [show D + (f + 1) + 4 = D + 1 + f + 4 by omega]
        refine h4 (D + 1) dp b M1 κ _ _ hdp hB1 hF1 g16 g17 o2 (by omega) hn ?_ hκ
        rw [o4] at hw0
        rw [if_pos hw0]
        rfl
end ZRule
