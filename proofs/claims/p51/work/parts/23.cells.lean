/-! Cells and heaps of one in the words of the other. -/
section Cel
variable {rv rw : List Int} {th : List sF} {E T : sE}
noncomputable def s_sbI (a b : pI) : Bool := s_le b.1 a.1 && s_le a.2 b.2
theorem s_sbIS {a b : pI} {v : Int} (h : s_sbI a b = true) (h1 : a.1 ≤ v) (h2 : v ≤ a.2) : b.1 ≤ v ∧ v ≤ b.2 := by
  simp only [s_sbI, Bool.and_eq_true] at h
  have := s_le_iff.mp h.1
  have := s_le_iff.mp h.2
  omega
noncomputable def s_cUp (E : sE) (th : List sF) (s : sW) (b : pI) : Option sF → Bool
  | none => true
  | some uf => match s_sbF th uf with
    | none => false
    | some u => (match s with
      | .inl g => s_ge2 E (s_sub u g) 0
      | .inr (_, some w) => s_ge2 E (s_sub u w) 0
      | .inr (_, none) => false) || s_gez E u b.2
noncomputable def s_cW (E : sE) (th : List sF) (t s : sW) : Bool := match t with
  | .inl f => (match s with
    | .inl g => s_cF E th f g
    | _ => false)
  | .inr (i, u) => match s_wI E s with
    | none => false
    | some (b, _) => s_sbI b i && s_cUp E th s b u
theorem s_cWS (hE : q_E rv E) (h : q_Th rv th rw) {t s : sW} {x : Int32} (hc : s_cW E th t s = true) (hs : q_W rv s x) : q_W rw t x := by
  rcases t with f | ⟨i, u⟩
  · rcases s with g | s
    · exact s_cFS hE h hc hs
    · cases hc
  · unfold s_cW at hc
    dsimp only at hc
    split at hc
    · cases hc
    · rename_i b u0 hb
      simp only [Bool.and_eq_true] at hc
      have hx := s_wIS hE hs hb
      have hx1 : b.1 ≤ x.toInt := hx.1
      have hx2 : x.toInt ≤ b.2 := hx.2.1
      obtain ⟨k1, k2⟩ := s_sbIS hc.1 hx1 hx2
      refine ⟨k1, k2, fun uf hu => ?_⟩
      subst hu
      have hc2 := hc.2
      unfold s_cUp at hc2
      dsimp only at hc2
      split at hc2
      · cases hc2
      · rename_i u2 hu2
        obtain ⟨v, h1, h2⟩ := s_sbFS h hu2
        refine ⟨v, h1, ?_⟩
        simp only [Bool.or_eq_true] at hc2
        rcases hc2 with hc2 | hc2
        · split at hc2
          · rename_i g
            have := s_ge2S hE hc2 (s_subS h2 (show s_val rv g = some x.toInt from hs))
            omega
          · rename_i j w
            obtain ⟨vw, g1, g2⟩ := hs.2.2 w rfl
            have := s_ge2S hE hc2 (s_subS h2 g1)
            omega
          · cases hc2
        · have := s_gezS hE hc2 h2
          omega
noncomputable def s_tyE (a b : FieldType) : Bool := match a, b with
  | .int, .int => true
  | .byte, .byte => true
  | .boolean, .boolean => true
  | .char, .char => true
  | _, _ => false
theorem s_tyES {a b : FieldType} (h : s_tyE a b = true) : a = b := by
  unfold s_tyE at h
  split at h <;> first | rfl | cases h
noncomputable def s_cWs (E : sE) (th : List sF) (ts ss : List sW) : Nat → Bool
  | 0 => true
  | n + 1 => (match ts[n % ts.length]?, ss[n % ss.length]? with
    | some t, some s => s_cW E th t s
    | _, _ => false) && s_cWs E th ts ss n
theorem s_cWsS {ts ss : List sW} : ∀ {n : Nat}, s_cWs E th ts ss n = true → ∀ j, j < n → ∃ t s, ts[j % ts.length]? = some t ∧ ss[j % ss.length]? = some s ∧ s_cW E th t s = true
  | 0, _, j, hj => by omega
  | n + 1, hc, j, hj => by
    simp only [s_cWs, Bool.and_eq_true] at hc
    by_cases e : j = n
    · subst e
      have hc := hc.1
      split at hc
      · rename_i t s h1 h2
        exact ⟨t, s, h1, h2, hc⟩
      · cases hc
    · exact s_cWsS hc.2 j (by omega)
noncomputable def s_per (a b : Nat) : Bool := Nat.beq a b || Nat.beq (b % a) 0 || Nat.beq (a % b) 0
theorem s_perS {a b : Nat} (h : s_per a b = true) (ha : 0 < a) (hb : 0 < b) (j : Nat) : ∃ i, i < max a b ∧ i % a = j % a ∧ i % b = j % b := by
  simp only [s_per, Bool.or_eq_true] at h
  rcases h with (h | h) | h
  · have e := Nat.eq_of_beq_eq_true h
    subst e
    exact ⟨j % a, by have := Nat.mod_lt j ha; omega, Nat.mod_mod _ _, Nat.mod_mod _ _⟩
  · have e := Nat.eq_of_beq_eq_true h
    exact ⟨j % b, by have := Nat.mod_lt j hb; omega, Nat.mod_mod_of_dvd _ (Nat.dvd_of_mod_eq_zero e), Nat.mod_mod _ _⟩
  · have e := Nat.eq_of_beq_eq_true h
    exact ⟨j % a, by have := Nat.mod_lt j ha; omega, Nat.mod_mod _ _, Nat.mod_mod_of_dvd _ (Nat.dvd_of_mod_eq_zero e)⟩
/-- one that was read or written last, at f, within i -/
noncomputable def s_chI (E : sE) (f : sF) (i : pI) : List (sF × sF) → Bool
  | [] => false
  | q :: r => (s_eqv E q.1 f && s_inI E q.2 i) || s_chI E f i r
noncomputable def s_faI (E : sE) (u : sF) (i : pI) (ch : List (sF × sF)) : List (sF × pI) → Bool
  | [] => false
  | q :: r => (s_sbI q.2 i && (s_gez E (s_sub q.1 u) 0 || (s_gez E (s_sub (s_add q.1 (s_num 1)) u) 0 && s_chI E q.1 i ch))) || s_faI E u i ch r
noncomputable def s_wsI (E : sE) (i : pI) : List sW → Bool
  | [] => true
  | w :: r => (match s_wI E w with
    | none => false
    | some (b, _) => s_sbI b i) && s_wsI E i r
noncomputable def s_cFa (E : sE) (th : List sF) (ro : sR) : List (sF × pI) → Bool
  | [] => true
  | q :: r => (match s_sbF th q.1 with
    | none => false
    | some u => s_gez E (s_mul (-1) u) 0 || s_wsI E q.2 ro.2.2.1 || s_faI E u q.2 ro.2.2.2.1 ro.2.2.2.2 || (s_gez E (s_sub (s_num 1) u) 0 && s_chI E (s_num 0) q.2 ro.2.2.2.1)) && s_cFa E th ro r
theorem s_chIS (hE : q_E rv E) {n : Nat} {g : Nat → Int32} {f : sF} {i : pI} {v : Int} (hf : s_val rv f = some v) : ∀ {ch : List (sF × sF)}, (∀ p ∈ ch, ∃ j, j < n ∧ s_val rv p.1 = some (j : Int) ∧ s_val rv p.2 = some (g j).toInt) → s_chI E f i ch = true → ∀ j : Nat, (j : Int) = v → i.1 ≤ (g j).toInt ∧ (g j).toInt ≤ i.2
  | [], _, h, _, _ => by cases h
  | q :: r, hp, h, j, hj => by
    simp only [s_chI, Bool.or_eq_true, Bool.and_eq_true] at h
    rcases h with ⟨h1, h2⟩ | h
    · obtain ⟨j2, g1, g2, g3⟩ := hp q List.mem_cons_self
      have e := s_eqvS hE h1 g2 hf
      have e2 : j = j2 := by omega
      subst e2
      exact s_inIS hE g3 h2
    · exact s_chIS hE hf (fun p hp2 => hp p (List.mem_cons_of_mem _ hp2)) h j hj
theorem s_faIS (hE : q_E rv E) {n : Nat} {g : Nat → Int32} {u : sF} {i : pI} {v : Int} {ch : List (sF × sF)} (hu : s_val rv u = some v) (hch : ∀ p ∈ ch, ∃ j, j < n ∧ s_val rv p.1 = some (j : Int) ∧ s_val rv p.2 = some (g j).toInt) : ∀ {fa : List (sF × pI)}, (∀ p ∈ fa, ∃ u, s_val rv p.1 = some u ∧ ∀ j, j < n → (j : Int) < u → p.2.1 ≤ (g j).toInt ∧ (g j).toInt ≤ p.2.2) → s_faI E u i ch fa = true → ∀ j, j < n → (j : Int) < v → i.1 ≤ (g j).toInt ∧ (g j).toInt ≤ i.2
  | [], _, h, _, _, _ => by cases h
  | q :: r, hp, h, j, hj, hv => by
    simp only [s_faI, Bool.or_eq_true, Bool.and_eq_true] at h
    rcases h with ⟨h1, h2⟩ | h
    · obtain ⟨w, g1, g2⟩ := hp q List.mem_cons_self
      rcases h2 with h2 | ⟨h2, h3⟩
      · have := s_gezS hE h2 (s_subS g1 hu)
        obtain ⟨a, b⟩ := g2 j hj (by omega)
        exact s_sbIS h1 a b
      · have := s_gezS hE h2 (s_subS (s_addS g1 (s_numS 1)) hu)
        by_cases e : (j : Int) = w
        · exact s_chIS hE g1 hch h3 j e
        · obtain ⟨a, b⟩ := g2 j hj (by omega)
          exact s_sbIS h1 a b
    · exact s_faIS hE hu hch (fun p hp2 => hp p (List.mem_cons_of_mem _ hp2)) h j hj hv
theorem s_wsIS {i : pI} : ∀ {fs : List sW}, s_wsI E i fs = true → ∀ w ∈ fs, ∃ b u, s_wI E w = some (b, u) ∧ s_sbI b i = true
  | [], _, w, hw => nomatch hw
  | w0 :: r, h, w, hw => by
    simp only [s_wsI, Bool.and_eq_true] at h
    rcases List.mem_cons.mp hw with rfl | hw
    · have h := h.1
      split at h
      · cases h
      · rename_i b u hb
        exact ⟨b, u, hb, h⟩
    · exact s_wsIS h.2 w hw
theorem s_cFaS (hE : q_E rv E) (h : q_Th rv th rw) {n : Nat} {g : Nat → Int32} {ro : sR} (hR : q_Ro rv n g ro) : ∀ {fa : List (sF × pI)}, s_cFa E th ro fa = true → ∀ p ∈ fa, ∃ u, s_val rw p.1 = some u ∧ ∀ j, j < n → (j : Int) < u → p.2.1 ≤ (g j).toInt ∧ (g j).toInt ≤ p.2.2
  | [], _, p, hp => nomatch hp
  | q :: r, hc, p, hp => by
    simp only [s_cFa, Bool.and_eq_true] at hc
    rcases List.mem_cons.mp hp with rfl | hp
    · have hc := hc.1
      split at hc
      · cases hc
      · rename_i u hu
        obtain ⟨v, h1, h2⟩ := s_sbFS h hu
        refine ⟨v, h1, fun j hj hjv => ?_⟩
        simp only [Bool.or_eq_true, Bool.and_eq_true] at hc
        rcases hc with ((hc | hc) | hc) | ⟨hc, hc2⟩
        · have := s_gezS hE hc (s_mulS h2); omega
        · obtain ⟨w, hw1, hw2⟩ := hR.2.2.1 j hj
          obtain ⟨b, u2, hb, hb2⟩ := s_wsIS hc w (List.mem_of_getElem? hw1)
          have hx := s_wIS hE hw2 hb
          exact s_sbIS hb2 hx.1 hx.2.1
        · exact s_faIS hE h2 hR.2.2.2.1 hR.2.2.2.2 hc j hj hjv
        · have := s_gezS hE hc (s_subS (s_numS 1) h2)
          exact s_chIS hE (s_numS 0) hR.2.2.2.1 hc2 j (by omega)
    · exact s_cFaS hE h hR hc.2 p hp
noncomputable def s_cR (E : sE) (th : List sF) (t s : sR) : Bool := s_tyE t.1 s.1 && s_cF E th t.2.1 s.2.1 && s_per t.2.2.1.length s.2.2.1.length && Nat.blt 0 t.2.2.1.length && s_cWs E th t.2.2.1 s.2.2.1 (max t.2.2.1.length s.2.2.1.length) && s_nil t.2.2.2.1 && s_cFa E th s t.2.2.2.2
theorem s_cRS (hE : q_E rv E) (h : q_Th rv th rw) {n : Nat} {g : Nat → Int32} {t s : sR} (hc : s_cR E th t s = true) (hR : q_Ro rv n g s) : q_Ro rw n g t ∧ t.1 = s.1 := by
  simp only [s_cR, Bool.and_eq_true] at hc
  obtain ⟨⟨⟨⟨⟨⟨c1, c2⟩, c3⟩, c4⟩, c5⟩, c6⟩, c7⟩ := hc
  have hpos : 0 < t.2.2.1.length := Nat.le_of_ble_eq_true c4
  refine ⟨⟨s_cFS hE h c2 hR.1, hpos, fun j hj => ?_, ?_, s_cFaS hE h hR c7⟩, s_tyES c1⟩
  · obtain ⟨i, i1, i2, i3⟩ := s_perS c3 hpos hR.2.1 j
    obtain ⟨a, b, h1, h2, h3⟩ := s_cWsS c5 i i1
    obtain ⟨w, h4, h5⟩ := hR.2.2.1 j hj
    rw [i2] at h1
    rw [i3, h4] at h2
    cases h2
    exact ⟨a, h1, s_cWS hE h h3 h5⟩
  · rw [s_nilS c6]
    exact fun p hp => nomatch hp
noncomputable def s_eqO : List (Option Nat) → List (Option Nat) → Bool
  | [], [] => true
  | none :: r, none :: s => s_eqO r s
  | some a :: r, some b :: s => Nat.beq a b && s_eqO r s
  | _, _ => false
theorem s_eqOS : ∀ {a b : List (Option Nat)}, s_eqO a b = true → a = b
  | [], [], _ => rfl
  | [], _ :: _, h => by cases h
  | _ :: _, [], h => by simp [s_eqO] at h
  | none :: r, none :: s, h => by rw [s_eqOS (a := r) (b := s) h]
  | none :: _, some _ :: _, h => by cases h
  | some _ :: _, none :: _, h => by cases h
  | some a :: r, some b :: s, h => by
    simp only [s_eqO, Bool.and_eq_true] at h
    rw [Nat.eq_of_beq_eq_true h.1, s_eqOS h.2]
noncomputable def s_bq (a b : Bool) : Bool := bif a then b else !b
theorem s_bqS {a b : Bool} (h : s_bq a b = true) : a = b := by
  cases a <;> cases b <;> first | rfl | cases h
noncomputable def s_cC (E : sE) (th : List sF) (t s : sC) : Bool := match t with
  | .inl ro => (match s with
    | .inl r2 => s_cR E th ro r2 && s_bq (s_nil r2.2.1.1) (s_nil ro.2.1.1)
    | _ => false)
  | .inr (.inl n) => (match s with
    | .inr (.inl n2) => Nat.beq n n2
    | _ => false)
  | .inr (.inr (.inl q)) => (match s with
    | .inr (.inr (.inl q2)) => Nat.beq q.1 q2.1 && s_eqO q.2 q2.2
    | _ => false)
  | .inr (.inr (.inr o)) => (match s with
    | .inr (.inr (.inr o2)) => Nat.beq o.1 o2.1 && s_cL E th o.2 o2.2
    | _ => false)
theorem s_cCS {dC : Nat → ClassId} {dI : Nat → Nat → Nat} {dA : FieldType → ClassId} {ad : Nat → Nat} {b0 a : Nat} {H : Heap} (hE : q_E rv E) (h : q_Th rv th rw) {t s : sC} (hc : s_cC E th t s = true) (hs : q_C dC dI dA rv ad b0 a H s) : q_C dC dI dA rw ad b0 a H t := by
  rcases t with ro | n | ⟨n, f⟩ | ⟨ci, fs⟩
  · rcases s with r2 | n2 | ⟨n2, f2⟩ | ⟨ci2, fs2⟩
    · obtain ⟨n, g, h1, h2, h3, h4⟩ := hs
      simp only [s_cC, Bool.and_eq_true] at hc
      obtain ⟨k1, k2⟩ := s_cRS hE h hc.1 h2
      refine ⟨n, g, h1.as rfl k2 (s_bqS hc.2).symm, k1, by rw [k2]; exact h3, fun hn => h4 (s_nilS ?_)⟩
      rw [s_bqS hc.2, hn]
      rfl
    · cases hc
    · cases hc
    · cases hc
  · rcases s with r2 | n2 | ⟨n2, f2⟩ | ⟨ci2, fs2⟩
    · cases hc
    · rw [Nat.eq_of_beq_eq_true hc]
      exact hs
    · cases hc
    · cases hc
  · rcases s with r2 | n2 | ⟨n2, f2⟩ | ⟨ci2, fs2⟩
    · cases hc
    · cases hc
    · simp only [s_cC, Bool.and_eq_true] at hc
      have e1 := Nat.eq_of_beq_eq_true hc.1
      have e2 := s_eqOS hc.2
      subst e1
      subst e2
      exact hs
    · cases hc
  · rcases s with r2 | n2 | ⟨n2, f2⟩ | ⟨ci2, fs2⟩
    · cases hc
    · cases hc
    · cases hc
    · simp only [s_cC, Bool.and_eq_true] at hc
      obtain ⟨h0, vs, q, h1, h2⟩ := hs
      have e1 := Nat.eq_of_beq_eq_true hc.1
      subst e1
      exact ⟨h0, vs, q, s_cLS hE h hc.2 h1, h2⟩
theorem s_cCc {t s : sC} (hc : s_cC E th t s = true) : s_cls t = s_cls s := by
  rcases t with ro | n | ⟨n, f⟩ | ⟨ci, fs⟩ <;> rcases s with r2 | n2 | ⟨n2, f2⟩ | ⟨ci2, fs2⟩ <;> first | rfl | (cases hc; done) | skip
  simp only [s_cC, Bool.and_eq_true] at hc
  exact (s_bqS hc.2).symm
noncomputable def s_cH (E : sE) (th : List sF) (S : sH) : sH → Bool
  | [] => true
  | q :: r => (match s_hget S q.1 with
    | none => false
    | some c => s_cC E th q.2 c) && s_cH E th S r
theorem s_cHS {dC : Nat → ClassId} {dI : Nat → Nat → Nat} {dA : FieldType → ClassId} {ad : Nat → Nat} {b0 : Nat} {S : sH} {H : Heap} (hE : q_E rv E) (h : q_Th rv th rw) (hS : ∀ x ∈ S, q_C dC dI dA rv ad b0 (ad x.1) H x.2) : ∀ {t : sH}, s_cH E th S t = true → ∀ x ∈ t, q_C dC dI dA rw ad b0 (ad x.1) H x.2 ∧ ∃ y ∈ S, y.1 = x.1 ∧ s_cls x.2 = s_cls y.2
  | [], _, x, hx => nomatch hx
  | q :: r, hc, x, hx => by
    simp only [s_cH, Bool.and_eq_true] at hc
    rcases List.mem_cons.mp hx with rfl | hx
    · have hc := hc.1
      split at hc
      · cases hc
      · rename_i c hcc
        have hm := s_hgetS hcc
        exact ⟨s_cCS hE h hc (hS _ hm), _, hm, rfl, s_cCc hc⟩
    · exact s_cHS hE h hS hc.2 x hx
end Cel
