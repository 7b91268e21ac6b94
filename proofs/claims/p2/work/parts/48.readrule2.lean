/-! The rule is read: the proof. -/
section RR
variable {l : Launch} {dC : Nat → ClassId} {dI : Nat → Nat → Nat} {dA : FieldType → ClassId} {Hb : Heap} {ad : Nat → Nat}
theorem s_r40S {rv : List Int} {E : sE} {h : sH} {H0 H : Heap} {q : Nat} {ro : sR} {i : pI} (hr : s_r40 E h q = some (ro, i)) : s_orow h q = some ro ∧ ro.1 = .int ∧ ro.2.2.1 = [.inr (i, none)] ∧ (q_E rv E → q_G dC dI dA rv ad Hb H0 E h H → Hb.size ≤ ad q → s_val rv ro.2.1 = some (40 : Int) ∧ ∃ g : Nat → Int32, H[ad q]? = some (vp_cell (dA .int) (40, .inl g)) ∧ ∀ j : Nat, j < 40 → i.1 ≤ (g j).toInt ∧ (g j).toInt ≤ i.2) := by
  unfold s_r40 at hr
  split at hr
  · cases hr
  · rename_i ro' hro
    split at hr
    · rename_i i' hfs
      obtain ⟨hb, hr⟩ := q_bif hr
      cases hr
      rw [Bool.and_eq_true] at hb
      have t : ro.1 = .int := by rcases q_isT hb.1 with ⟨-, e⟩ | ⟨e, -⟩ | ⟨e, -⟩ | ⟨e, -⟩ <;> first | exact e | cases e
      refine ⟨hro, t, hfs, fun hE hG hbq => ?_⟩
      obtain ⟨n, g, g1, g2⟩ := q_oRow hG hro hbq
      have hb2 := hb.2
      split at hb2
      · cases hb2
      · rename_i z hz
        have e1 := s_litS hE g2.1 hz
        have e2 := s_ie_iff.mp hb2
        have en : n = 40 := by omega
        subst en
        rw [t] at g1
        refine ⟨g2.1, g, g1, fun j hj => ?_⟩
        obtain ⟨w, w1, w2⟩ := g2.2.2.1 j hj
        rw [hfs] at w1
        have w1 : ([(.inr (i, none) : sW)])[j % 1]? = some w := w1
        rw [Nat.mod_one] at w1
        cases w1
        exact ⟨w2.1, w2.2.1⟩
    · cases hr
theorem q_ro40 {rv : List Int} {ro : sR} {i : pI} {g : Nat → Int32} (h1 : s_val rv ro.2.1 = some (40 : Int)) (h2 : ro.2.2.1 = [.inr (i, none)]) (h3 : s_nil ro.2.2.2.1 = true) (h4 : s_nil ro.2.2.2.2 = true) (h5 : ∀ j : Nat, j < 40 → i.1 ≤ (g j).toInt ∧ (g j).toInt ≤ i.2) : q_Ro rv 40 g ro := by
  refine ⟨h1, by rw [h2]; exact Nat.zero_lt_one, fun j hj => ⟨.inr (i, none), ?_, (h5 j hj).1, (h5 j hj).2, fun f hf => by cases hf⟩, ?_, ?_⟩
  · rw [h2]
    show ([(.inr (i, none) : sW)])[j % 1]? = _
    rw [Nat.mod_one]
    rfl
  · rw [s_nilS h3]
    exact fun p hp => nomatch hp
  · rw [s_nilS h4]
    exact fun p hp => nomatch hp
theorem q_cRow {rv : List Int} {h : sH} {q : Nat} {ro : sR} {g : Nat → Int32} {H : Heap} (ho : s_orow h q = some ro) (ht : ro.1 = .int) (hg : H[ad q]? = some (vp_cell (dA .int) (40, .inl g))) (hR : q_Ro rv 40 g ro) : q_C dC dI dA rv ad Hb.size (ad q) H (.inl ro) := by
  refine ⟨40, g, Or.inl (by rw [ht]; exact hg), hR, Or.inl ht, fun hn => ?_⟩
  have h2 : s_nil ro.2.1.1 = false := (s_orowS ho).2
  rw [hn] at h2
  cases h2
theorem q_asm {rv : List Int} {E : sE} {hh U ch : sH} {H0 Hs H : Heap} (hG : q_G dC dI dA rv ad Hb Hs E hh H) (hf : E.1 = false) (hch : ∀ q : Nat, q < H0.size → (∀ z ∈ ch, ad z.1 ≠ q) → H[q]? = H0[q]?) (hsz : H0.size ≤ H.size) (h1 : s_subI ch hh = true) (h2 : s_subI (hh ++ U) ch = true) (hinj : ∀ a ∈ ch, ∀ b ∈ ch, ad a.1 = ad b.1 → a.1 = b.1) (hUc : ∀ u ∈ U, s_hasI ch u.1 = true) (hU : ∀ u ∈ U, q_C dC dI dA rv ad Hb.size (ad u.1) H u.2) (hJ : q_J dA Hb.size ad (hh ++ U) H) : q_G dC dI dA rv ad Hb H0 E (hh ++ U) H := by
  have ids : ∀ z ∈ hh ++ U, ∃ w ∈ ch, w.1 = z.1 := fun z hz => by
    rcases List.mem_append.mp hz with hz | hz
    · exact s_subIS h1 z hz
    · exact s_hasT (hUc z hz)
  refine ⟨hG.1, fun q hq hn => hch q hq (fun z hz e => ?_), ⟨hsz, hG.2.2.1.2⟩, (fun e => by rw [hf] at e; cases e), fun z hz => ?_, fun a ha b hb e => ?_, fun _ => hJ⟩
  · obtain ⟨w, w1, w2⟩ := s_subIS h2 z hz
    exact hn w w1 (by rw [w2]; exact e)
  · rcases List.mem_append.mp hz with hz | hz
    · exact hG.2.2.2.2.1 z hz
    · exact hU z hz
  · obtain ⟨a', a1, a2⟩ := ids a ha
    obtain ⟨b', b1, b2⟩ := ids b hb
    rw [← a2, ← b2]
    exact hinj a' a1 b' b1 (by rw [a2, b2]; exact e)
theorem s_rmIS {ids : List Nat} {h : sH} : (∀ z ∈ s_rmI ids h, z ∈ h ∧ z.1 ∉ ids) ∧ ∀ z ∈ h, z.1 ∉ ids → z ∈ s_rmI ids h := by
  have key : ∀ n : Nat, (ids.any (fun k => Nat.beq k n) = true) ↔ n ∈ ids := fun n => by
    rw [List.any_eq_true]
    constructor
    · rintro ⟨k, k1, k2⟩
      rw [← Nat.eq_of_beq_eq_true k2]
      exact k1
    · intro hn
      exact ⟨n, hn, Nat.beq_refl n⟩
  refine ⟨fun z hz => ?_, fun z hz hn => List.mem_filter.mpr ⟨hz, ?_⟩⟩
  · obtain ⟨a, b⟩ := List.mem_filter.mp hz
    refine ⟨a, fun hi => ?_⟩
    rw [(key z.1).mpr hi] at b
    cases b
  · cases hb : ids.any (fun k => Nat.beq k z.1) with
    | false => rfl
    | true => exact absurd ((key z.1).mp hb) hn
/-- with fewer names; from now on -/
theorem q_G.less {rv : List Int} {E : sE} {h h' : sH} {H0 H : Heap} (hG : q_G dC dI dA rv ad Hb H0 E h H) (hf : E.1 = false) (hs : ∀ z ∈ h', z ∈ h) : q_G dC dI dA rv ad Hb H E h' H :=
  ⟨hG.1, fun _ _ _ => rfl, ⟨Nat.le_refl _, hG.2.2.1.2⟩, (fun e => by rw [hf] at e; cases e), fun z hz => hG.2.2.2.2.1 z (hs z hz), fun a ha b hb e => hG.2.2.2.2.2.1 a (hs a ha) b (hs b hb) e, fun hf => (hG.2.2.2.2.2.2 hf).kept fun i ⟨z, z1, z2, z3⟩ => ⟨⟨z, hs z z1, z2, z3⟩, rfl⟩⟩
/-- a cell that isn't named changes -/
theorem q_G.other {rv : List Int} {E : sE} {h : sH} {H0 H H1 : Heap} {a : Nat} (hG : q_G dC dI dA rv ad Hb H0 E h H) (ha : Hb.size ≤ a) (hn : ∀ z ∈ h, ad z.1 ≠ a) (hz : H1.size = H.size) (ho : ∀ q : Nat, q ≠ a → H1[q]? = H[q]?) : q_G dC dI dA rv ad Hb H1 E h H1 := by
  obtain ⟨g1, g2, g3, g4, g5, g6, g7⟩ := hG
  exact ⟨fun q hq => (ho q (by omega)).trans (g1 q hq), fun _ _ _ => rfl, ⟨Nat.le_refl _, by rw [hz]; exact g3.2⟩, by rw [hz]; exact g4, fun z hz => (g5 z hz).kept (ho _ (hn z hz)), g6, fun hf => (g7 hf).kept fun i ⟨z, z1, z2, z3⟩ => ⟨⟨z, z1, z2, z3⟩, ho _ (by rw [← z2]; exact hn z z1)⟩⟩
end RR
