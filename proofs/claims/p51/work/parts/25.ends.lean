/-! The ends of a contract, told to the caller. -/
theorem q_bif {α : Type} {b : Bool} {x : Option α} {y : α} (h : (bif b then x else none) = some y) : b = true ∧ x = some y := by
  cases b with
  | true => exact ⟨rfl, h⟩
  | false => cases h
section Ends
variable {rv rw r x : List Int} {th : List sF} {E T : sE}
theorem s_th2S (h : q_Th rv th rw) {N m : Nat} (hN : rv.length = N) (hm : x.length = m) : q_Th (rv ++ x) (s_th2 th N m) (rw ++ x) := by
  refine ⟨by simp [s_th2, h.1, hm], fun k f hk => ?_⟩
  unfold s_th2 at hk
  by_cases hlt : k < th.length
  · rw [List.getElem?_append_left hlt] at hk
    obtain ⟨v, h1, h2⟩ := h.2 k f hk
    exact ⟨v, by rw [List.getElem?_append_left (by rw [← h.1]; exact hlt)]; exact h1, s_val_mono x h2⟩
  · rw [List.getElem?_append_right (by omega)] at hk
    have hj := (List.getElem?_eq_some_iff.mp hk).1
    rw [List.length_map, List.length_range] at hj
    rw [List.getElem?_map, List.getElem?_range hj] at hk
    cases hk
    have hx : k - th.length < x.length := by omega
    refine ⟨x[k - th.length], ?_, ?_⟩
    · rw [List.getElem?_append_right (by have := h.1; omega), ← h.1]
      exact List.getElem?_eq_getElem hx
    · refine s_nmS ?_
      rw [List.getElem?_append_right (by omega), hN, Nat.add_sub_cancel_left]
      exact List.getElem?_eq_getElem hx
theorem s_exS {l : List pI} (hE : q_E rv E) (hl : x.length = l.length) (hx : ∀ (k : Nat) (i : pI), l[k]? = some i → ∃ v, x[k]? = some v ∧ i.1 ≤ v ∧ v ≤ i.2) : q_E (rv ++ x) (s_ex E l) := by
  refine ⟨by show (rv ++ x).length = (E.2.1 ++ l).length; rw [List.length_append, List.length_append, hE.1, hl], fun k i hk => ?_, fun q hq => ?_, fun f hf => ?_⟩
  · have hk : (E.2.1 ++ l)[k]? = some i := hk
    by_cases hlt : k < E.2.1.length
    · rw [List.getElem?_append_left hlt] at hk
      obtain ⟨v, h1, h2⟩ := hE.2.1 k i hk
      exact ⟨v, by rw [List.getElem?_append_left (by rw [hE.1]; exact hlt)]; exact h1, h2⟩
    · rw [List.getElem?_append_right (by omega)] at hk
      obtain ⟨v, h1, h2⟩ := hx _ i hk
      exact ⟨v, by rw [List.getElem?_append_right (by rw [hE.1]; omega), hE.1]; exact h1, h2⟩
  · obtain ⟨v, h1, h2⟩ := hE.2.2.1 q hq
    exact ⟨v, s_ev_mono _ h1, h2⟩
  · obtain ⟨v, h1, h2⟩ := hE.2.2.2 f hf
    exact ⟨v, s_val_mono _ h1, h2⟩
theorem s_eBS : ∀ {th : List sF} {B0 Bo : List pI} {E : sE}, q_E r E → (∀ (k : Nat) (f : sF) (j : pI), th[k]? = some f → Bo[k]? = some j → ∃ v, s_val r f = some v ∧ j.1 ≤ v ∧ v ≤ j.2) → q_E r (s_eB E th B0 Bo) ∧ (s_eB E th B0 Bo).1 = E.1
  | [], _, _, E, hE, _ => ⟨hE, rfl⟩
  | f :: th, [], _, E, hE, _ => ⟨hE, rfl⟩
  | f :: th, i :: B0, [], E, hE, _ => ⟨hE, rfl⟩
  | f :: th, i :: B0, j :: Bo, E, hE, h => by
    unfold s_eB
    have hr : ∀ (k : Nat) (f : sF) (j : pI), th[k]? = some f → Bo[k]? = some j → ∃ v, s_val r f = some v ∧ j.1 ≤ v ∧ v ≤ j.2 := fun k g j2 h1 h2 => h (k + 1) g j2 (by simpa using h1) (by simpa using h2)
    cases s_ie i.1 j.1 && s_ie i.2 j.2 with
    | true => exact s_eBS hE hr
    | false =>
      obtain ⟨v, h1, h2, h3⟩ := h 0 f j rfl rfl
      obtain ⟨z1, z2⟩ := s_geS hE (s_subS h1 (s_numS j.1)) (by omega)
      obtain ⟨z3, z4⟩ := s_geS z1 (s_subS (s_numS j.2) h1) (by omega)
      obtain ⟨z5, z6⟩ := s_eBS (B0 := B0) z3 hr
      exact ⟨z5, z6.trans (z4.trans z2)⟩
theorem s_feBS (hE : q_E r E) : ∀ {th : List sF} {Bo : List pI}, (∀ (k : Nat) (f : sF) (j : pI), th[k]? = some f → Bo[k]? = some j → ∃ v, s_val r f = some v ∧ j.1 ≤ v ∧ v ≤ j.2) → s_feB E th Bo = true
  | [], _, _ => by unfold s_feB; rfl
  | f :: th, [], _ => by unfold s_feB; rfl
  | f :: th, j :: Bo, h => by
    unfold s_feB
    have hr : ∀ (k : Nat) (f : sF) (j : pI), th[k]? = some f → Bo[k]? = some j → ∃ v, s_val r f = some v ∧ j.1 ≤ v ∧ v ≤ j.2 := fun k g j2 h1 h2 => h (k + 1) g j2 (by simpa using h1) (by simpa using h2)
    rw [s_feBS hE hr, Bool.and_true]
    split
    · rfl
    · rename_i i hi
      obtain ⟨v, h1, h2, h3⟩ := h 0 f j rfl rfl
      have b := s_bndS hE hi h1
      rw [Bool.and_eq_true]
      exact ⟨s_le_iff.mpr (by omega), s_le_iff.mpr (by omega)⟩
theorem s_eCS (h : q_Th r th rw) : ∀ {l : List (sT × Int)} {E E2 : sE}, q_E r E → (∀ q ∈ l, ∃ v, s_ev rw q.1 = some v ∧ q.2 ≤ v) → s_eC th l E = some E2 → q_E r E2 ∧ E2.1 = E.1
  | [], E, E2, hE, _, he => by cases he; exact ⟨hE, rfl⟩
  | q :: l, E, E2, hE, hl, he => by
    unfold s_eC at he
    split at he
    · cases he
    · rename_i f hf
      obtain ⟨v, h1, h2⟩ := s_sbFS h hf
      obtain ⟨w, h3, h4⟩ := hl q List.mem_cons_self
      obtain ⟨a, h5, h6⟩ := s_val_iff.mp h1
      have e : a = w := by
        have h5 : s_ev rw q.1 = some a := h5
        rw [h3] at h5
        exact (Option.some.inj h5).symm
      have h6 : v = a + -q.2 := h6
      obtain ⟨z1, z2⟩ := s_geS hE h2 (by omega)
      obtain ⟨z3, z4⟩ := s_eCS h z1 (fun q hq => hl q (List.mem_cons_of_mem _ hq)) he
      exact ⟨z3, z4.trans z2⟩
theorem s_eNS (h : q_Th r th rw) : ∀ {l : List sF} {E E2 : sE}, q_E r E → (∀ f ∈ l, ∃ v, s_val rw f = some v ∧ v ≠ 0) → s_eN th l E = some E2 → q_E r E2 ∧ E2.1 = E.1
  | [], E, E2, hE, _, he => by cases he; exact ⟨hE, rfl⟩
  | q :: l, E, E2, hE, hl, he => by
    unfold s_eN at he
    split at he
    · cases he
    · rename_i f hf
      obtain ⟨v, h1, h2⟩ := s_sbFS h hf
      obtain ⟨w, h3, h4⟩ := hl q List.mem_cons_self
      have e : v = w := Option.some.inj (h1.symm.trans h3)
      have z1 := s_neS hE h2 (by omega)
      obtain ⟨z3, z4⟩ := s_eNS h z1 (fun q hq => hl q (List.mem_cons_of_mem _ hq)) he
      exact ⟨z3, z4⟩
theorem s_goodS (hE : q_E r E) : s_good E.2.1 = true := by
  have key : ∀ l : List pI, (∀ i ∈ l, i.1 ≤ i.2) → s_good l = true := by
    intro l
    induction l with
    | nil => intro _; rfl
    | cons i l ih =>
      intro h
      simp only [s_good, Bool.and_eq_true]
      exact ⟨s_le_iff.mpr (h i List.mem_cons_self), ih fun j hj => h j (List.mem_cons_of_mem _ hj)⟩
  refine key _ fun i hi => ?_
  obtain ⟨k, hk⟩ := List.getElem?_of_mem hi
  obtain ⟨v, -, h1, h2⟩ := hE.2.1 k i hk
  omega
theorem s_sbFV (h : q_Th r th rw) {f g : sF} (hg : s_sbF th f = some g) {v : Int} (hv : s_val rw f = some v) : s_val r g = some v := by
  obtain ⟨w, h1, h2⟩ := s_sbFS h hg
  rw [h2, ← h1, hv]
theorem s_sbAS {ad : Nat → Nat} (h : q_Th r th rw) {a b : sA} {v : Value} (hb : s_sbA th a = some b) (ha : q_A rw ad a v) : q_A r ad b v := by
  rcases a with f | a
  · unfold s_sbA at hb
    dsimp only at hb
    split at hb
    · cases hb
    · rename_i g hg
      cases hb
      obtain ⟨y, rfl, hy⟩ := ha
      exact ⟨y, rfl, s_sbFV h hg hy⟩
  · cases hb
    rcases a with o | z | u <;> exact ha
theorem s_sbLS {ad : Nat → Nat} (h : q_Th r th rw) : ∀ {as bs : List sA} {vs : List Value}, s_sbL th as = some bs → q_L rw ad as vs → q_L r ad bs vs
  | [], bs, vs, hb, ha => by cases hb; exact ha
  | a :: as, bs, vs, hb, ha => by
    unfold s_sbL at hb
    split at hb
    · cases hb
    · rename_i b h1
      split at hb
      · cases hb
      · rename_i l h2
        cases hb
        obtain ⟨v, vs', rfl, k1, k2⟩ := ha
        exact ⟨v, vs', rfl, s_sbAS h h1 k1, s_sbLS h h2 k2⟩
theorem s_sbWS (h : q_Th r th rw) {a b : sW} {y : Int32} (hb : s_sbW th a = some b) (ha : q_W rw a y) : q_W r b y := by
  rcases a with f | ⟨i, _ | u⟩
  · unfold s_sbW at hb
    dsimp only at hb
    split at hb
    · cases hb
    · rename_i g hg
      cases hb
      exact s_sbFV h hg ha
  · cases hb
    exact ⟨ha.1, ha.2.1, fun f hf => by cases hf⟩
  · unfold s_sbW at hb
    dsimp only at hb
    split at hb
    · cases hb
    · rename_i g hg
      cases hb
      refine ⟨ha.1, ha.2.1, fun f hf => ?_⟩
      cases hf
      obtain ⟨v, h1, h2⟩ := ha.2.2 u rfl
      exact ⟨v, s_sbFV h hg h1, h2⟩
theorem s_sbWsS (h : q_Th r th rw) : ∀ {as bs : List sW}, s_sbWs th as = some bs → bs.length = as.length ∧ ∀ (k : Nat) (a : sW), as[k]? = some a → ∃ b, bs[k]? = some b ∧ ∀ y, q_W rw a y → q_W r b y
  | [], bs, hb => by cases hb; exact ⟨rfl, fun k a hk => by simp at hk⟩
  | a :: as, bs, hb => by
    unfold s_sbWs at hb
    split at hb
    · cases hb
    · rename_i b h1
      split at hb
      · cases hb
      · rename_i l h2
        cases hb
        obtain ⟨k1, k2⟩ := s_sbWsS h h2
        refine ⟨by simp [k1], fun k c hk => ?_⟩
        cases k with
        | zero => simp at hk; subst hk; exact ⟨b, rfl, fun y hy => s_sbWS h h1 hy⟩
        | succ k => simp at hk; obtain ⟨d, g1, g2⟩ := k2 k c hk; exact ⟨d, by simpa using g1, g2⟩
theorem s_sbFaS (h : q_Th r th rw) {n : Nat} {g : Nat → Int32} : ∀ {as bs : List (sF × pI)}, s_sbFa th as = some bs → (∀ p ∈ as, ∃ u, s_val rw p.1 = some u ∧ ∀ j, j < n → (j : Int) < u → p.2.1 ≤ (g j).toInt ∧ (g j).toInt ≤ p.2.2) → ∀ p ∈ bs, ∃ u, s_val r p.1 = some u ∧ ∀ j, j < n → (j : Int) < u → p.2.1 ≤ (g j).toInt ∧ (g j).toInt ≤ p.2.2
  | [], bs, hb, _, p, hp => by cases hb; exact nomatch hp
  | a :: as, bs, hb, ha, p, hp => by
    unfold s_sbFa at hb
    split at hb
    · cases hb
    · rename_i b h1
      split at hb
      · cases hb
      · rename_i l h2
        cases hb
        rcases List.mem_cons.mp hp with rfl | hp
        · obtain ⟨u, g1, g2⟩ := ha a List.mem_cons_self
          exact ⟨u, s_sbFV h h1 g1, g2⟩
        · exact s_sbFaS h h2 (fun p hp => ha p (List.mem_cons_of_mem _ hp)) p hp
theorem s_sbCS {dC : Nat → ClassId} {dI : Nat → Nat → Nat} {dA : FieldType → ClassId} {ad : Nat → Nat} {b0 a : Nat} {H : Heap} (h : q_Th r th rw) {c d : sC} (hb : s_sbC th c = some d) (hc : q_C dC dI dA rw ad b0 a H c) : q_C dC dI dA r ad b0 a H d := by
  rcases c with ⟨ty, len, fs, ch, fa⟩ | n | ⟨n, f⟩ | ⟨ci, fs⟩
  · unfold s_sbC at hb
    dsimp only at hb
    split at hb
    · cases hb
    · rename_i len2 h1
      obtain ⟨hbq, hb⟩ := q_bif hb
      split at hb
      · cases hb
      · rename_i fs2 h2
        split at hb
        · cases hb
        · rename_i fa2 h3
          cases hb
          obtain ⟨n, g, k1, k2, k3, k4⟩ := hc
          obtain ⟨e1, e2⟩ := s_sbWsS h h2
          refine ⟨n, g, k1.as rfl rfl (s_bqS hbq).symm, ⟨s_sbFV h h1 k2.1, by show 0 < fs2.length; rw [e1]; exact k2.2.1, fun j hj => ?_, (fun p hp => by cases hp), s_sbFaS h h3 k2.2.2.2.2⟩, k3, fun hn => k4 (s_nilS ?_)⟩
          · obtain ⟨w, z1, z2⟩ := k2.2.2.1 j hj
            obtain ⟨b, z3, z4⟩ := e2 _ _ z1
            exact ⟨b, by show fs2[j % fs2.length]? = some b; rw [e1]; exact z3, z4 _ z2⟩
          · have hn : len2.1 = [] := hn
            show s_nil len.1 = true
            rw [s_bqS hbq, hn]
            rfl
  · cases hb
    exact hc
  · cases hb
    exact hc
  · unfold s_sbC at hb
    dsimp only at hb
    split at hb
    · cases hb
    · rename_i fs2 h1
      cases hb
      obtain ⟨h0, vs, q, k1, k2⟩ := hc
      exact ⟨h0, vs, q, s_sbLS h h1 k1, k2⟩
theorem s_sbCc {c d : sC} (hb : s_sbC th c = some d) : s_cls d = s_cls c := by
  rcases c with ⟨ty, len, fs, ch, fa⟩ | n | ⟨n, f⟩ | ⟨ci, fs⟩
  · unfold s_sbC at hb
    dsimp only at hb
    split at hb
    · cases hb
    · rename_i len2 h1
      obtain ⟨hbq, hb⟩ := q_bif hb
      split at hb
      · cases hb
      · split at hb
        · cases hb
        · cases hb
          exact (s_bqS hbq).symm
  · cases hb
    rfl
  · cases hb
    rfl
  · unfold s_sbC at hb
    dsimp only at hb
    split at hb
    · cases hb
    · cases hb
      rfl
end Ends
