/-! Bodies that pass the check keep their contracts. -/
noncomputable def q_mL (rv : List Int) : List sF → List Int → Prop
  | [], l => l = []
  | f :: r, l => ∃ v l', l = v :: l' ∧ s_val rv f = some v ∧ q_mL rv r l'
noncomputable def s_enc : Nat → List Int → Nat
  | a, [] => a
  | a, v :: r => s_enc (a * 4398046511104 + (v + 1099511627776).toNat) r
noncomputable def q_bdd (l : List Int) : Prop := ∀ v ∈ l, -1099511627776 ≤ v ∧ v ≤ 1099511627776
theorem s_encL : ∀ {l l' : List Int} {a a' : Nat}, a' < a → l'.length = l.length → q_bdd l → q_bdd l' → s_enc a' l' < s_enc a l
  | [], [], _, _, h, _, _, _ => h
  | [], _ :: _, _, _, _, h, _, _ => by simp at h
  | _ :: _, [], _, _, _, h, _, _ => by simp at h
  | v :: l, v' :: l', a, a', h, hl, hb, hb' => by
    have b1 := hb v List.mem_cons_self
    have b2 := hb' v' List.mem_cons_self
    show s_enc (a' * 4398046511104 + (v' + 1099511627776).toNat) l' < s_enc (a * 4398046511104 + (v + 1099511627776).toNat) l
    exact s_encL (by omega) (by simpa using hl) (fun x hx => hb x (List.mem_cons_of_mem _ hx)) (fun x hx => hb' x (List.mem_cons_of_mem _ hx))
section Meas
variable {rv rw : List Int} {th : List sF} {E : sE}
theorem s_lexS (hE : q_E rv E) : ∀ {a b : List sF} {va vb : List Int} (acc : Nat), s_lex E a b = true → q_mL rv a va → q_mL rv b vb → vb.length = va.length → q_bdd va → q_bdd vb → s_enc acc vb < s_enc acc va
  | [], _, _, _, _, h, _, _, _, _, _ => by cases h
  | _ :: _, [], _, _, _, h, _, _, _, _, _ => by cases h
  | f :: a, g :: b, va, vb, acc, h, ha, hb, hl, h1, h2 => by
    obtain ⟨v, l, rfl, k1, k2⟩ := ha
    obtain ⟨w, l', rfl, k3, k4⟩ := hb
    have b1 := h1 v List.mem_cons_self
    have b2 := h2 w List.mem_cons_self
    have t1 : q_bdd l := fun x hx => h1 x (List.mem_cons_of_mem _ hx)
    have t2 : q_bdd l' := fun x hx => h2 x (List.mem_cons_of_mem _ hx)
    simp only [s_lex, Bool.or_eq_true, Bool.and_eq_true] at h
    rcases h with h | ⟨h, h'⟩
    · have := s_ge2S hE h (s_subS k1 k3)
      show s_enc (acc * 4398046511104 + (w + 1099511627776).toNat) l' < s_enc (acc * 4398046511104 + (v + 1099511627776).toNat) l
      exact s_encL (by omega) (by simpa using hl) t1 t2
    · have e := s_eqvS hE h k3 k1
      subst e
      show s_enc (acc * 4398046511104 + (w + 1099511627776).toNat) l' < s_enc (acc * 4398046511104 + (w + 1099511627776).toNat) l
      exact s_lexS hE _ h' k2 k4 (by simpa using hl) t1 t2
theorem q_mL.len : ∀ {ms : List sF} {l : List Int}, q_mL rv ms l → l.length = ms.length
  | [], l, h => by rw [show l = [] from h]; rfl
  | f :: r, l, ⟨v, l', h1, h2, h3⟩ => by rw [h1, List.length_cons, h3.len, List.length_cons]
theorem q_mL.mono (x : List Int) : ∀ {ms : List sF} {l : List Int}, q_mL rv ms l → q_mL (rv ++ x) ms l
  | [], l, h => h
  | f :: r, l, ⟨v, l', h1, h2, h3⟩ => ⟨v, l', h1, s_val_mono x h2, h3.mono x⟩
theorem s_mBS (hE : q_E rv E) : ∀ {ms : List sF}, s_mB E ms = true → ∃ l, q_mL rv ms l ∧ q_bdd l
  | [], _ => ⟨[], rfl, fun v hv => nomatch hv⟩
  | f :: r, h => by
    simp only [s_mB, Bool.and_eq_true] at h
    obtain ⟨l, h1, h2⟩ := s_mBS hE h.2
    have hf := h.1
    have hb : ∃ i, s_bnd E f = some i := by
      unfold s_inI at hf
      split at hf
      · cases hf
      · rename_i i hi
        exact ⟨i, hi⟩
    obtain ⟨i, hi⟩ := hb
    obtain ⟨v, hv⟩ := s_bndV hE hi
    have b := s_inIS hE hv hf
    refine ⟨v :: l, ⟨v, l, rfl, hv, h1⟩, fun x hx => ?_⟩
    rcases List.mem_cons.mp hx with rfl | hx
    · exact b
    · exact h2 x hx
theorem s_sbMS (h : q_Th rv th rw) : ∀ {ms b : List sF} {l : List Int}, s_sbM th ms = some b → q_mL rw ms l → q_mL rv b l
  | [], b, l, hs, hl => by cases hs; exact hl
  | f :: r, b, l, hs, hl => by
    unfold s_sbM at hs
    split at hs
    · cases hs
    · rename_i g hg
      split at hs
      · cases hs
      · rename_i l2 hl2
        cases hs
        obtain ⟨v, l', rfl, k1, k2⟩ := hl
        exact ⟨v, l', rfl, s_sbFV h hg k1, s_sbMS h hl2 k2⟩
theorem s_idnS {n0 : Nat} : ∀ {n : Nat} {l : List sF}, n ≤ n0 → s_idn n0 n l = true → ∀ i, i < n → l[i]? = some (s_nm (n0 - n + i))
  | 0, _, _, _, i, hi => by omega
  | n + 1, [], _, h, _, _ => by cases h
  | n + 1, f :: r, hn, h, i, hi => by
    simp only [s_idn, Bool.and_eq_true] at h
    cases i with
    | zero => rw [s_eqF_eq h.1]; rfl
    | succ i =>
      have := s_idnS (by omega) h.2 i (by omega)
      rw [List.getElem?_cons_succ, this]
      congr 2
      omega
/-- the first names stay -/
theorem s_idnV {rv0 y : List Int} {n0 : Nat} (h0 : rv0.length = n0) (ht : q_Th (rv0 ++ y) th rw) (hi : s_idn n0 n0 th = true) : ∃ y', rw = rv0 ++ y' := by
  refine ⟨rw.drop n0, ?_⟩
  have key : ∀ i : Nat, i < n0 → rw[i]? = rv0[i]? := by
    intro i hi2
    have h1 := s_idnS (Nat.le_refl _) hi i hi2
    obtain ⟨v, h2, h3⟩ := ht.2 i _ h1
    rw [Nat.sub_self, Nat.zero_add] at h3
    obtain ⟨w, h4, rfl⟩ := s_val_iff.mp h3
    obtain ⟨a, b, h5, h6, rfl⟩ := s_ev_cons.mp h4
    rw [List.getElem?_append_left (by omega)] at h5
    cases h6
    rw [h2, h5]
    congr 1
    show 1 * a + 0 + 0 = a
    omega
  apply List.ext_getElem?
  intro i
  by_cases hi2 : i < n0
  · rw [List.getElem?_append_left (by omega)]
    exact key i hi2
  · rw [List.getElem?_append_right (by omega), List.getElem?_drop, h0]
    congr 1
    omega
end Meas
section Bodies
variable {dC : Nat → ClassId} {dI : Nat → Nat → Nat} {dA : FieldType → ClassId} {ad : Nat → Nat} {Hb H0 H : Heap} {rv rw rv0 y : List Int} {th : List sF} {E T : sE} {h t : sH} {n0 : Nat}
/-- heaps in other words -/
theorem s_heapT (hE : q_E rv E) (hEf : E.1 = false) (ht : q_Th rv th rw) (hT : T.1 = false) (hc : s_cH E th h t = true) (hs : s_subI t h = true) (hG : q_G dC dI dA rv ad Hb H0 E h H) : q_G dC dI dA rw ad Hb H0 T t H := by
  have hcs := s_cHS hE ht hG.2.2.2.2.1 hc
  have hsb := s_subIS hs
  refine ⟨hG.1, fun q hq hn => hG.2.1 q hq (fun x hx => ?_), hG.2.2.1, (fun e => by rw [hT] at e; cases e), fun x hx => (hcs x hx).1, (fun a ha b hb e => by
    obtain ⟨a', a1, a2, -⟩ := (hcs a ha).2
    obtain ⟨b', b1, b2, -⟩ := (hcs b hb).2
    rw [← a2, ← b2]
    exact hG.2.2.2.2.2.1 a' a1 b' b1 (by rw [a2, b2]; exact e)), fun _ => (hG.2.2.2.2.2.2 hEf).kept fun i ⟨z, z1, z2, z3⟩ => ⟨by obtain ⟨w, w1, w2, w3⟩ := (hcs z z1).2; exact ⟨w, w1, by rw [w2]; exact z2, by rw [← w3]; exact z3⟩, rfl⟩⟩
  obtain ⟨z, h1, h2⟩ := hsb x hx
  rw [← h2]
  exact hn z h1
theorem s_toTS {Tg S : sG} {nL : Nat} {ls : Array Slot} {vs : List Value} {locs : List Loc} (h0 : rv0.length = n0) (F : q_Fr dC dI dA (rv0 ++ y) ad Hb H0 nL S ls vs H locs) (hs : s_toT n0 Tg S = some th) : ∃ y', q_Th (rv0 ++ y) th (rv0 ++ y') ∧ q_Fr dC dI dA (rv0 ++ y') ad Hb H0 nL Tg ls vs H locs ∧ Tg.1 = S.1 := by
  obtain ⟨pc, lo, st, tE, tH⟩ := Tg
  obtain ⟨pc2, lo2, st2, sE2, h2⟩ := S
  obtain ⟨f1, f2, f3, f4, f5⟩ := F
  unfold s_toT at hs
  dsimp only at hs f1 f2 f3 f4
  obtain ⟨hpc, hs⟩ := q_bif hs
  split at hs
  · cases hs
  · rename_i b hb
    obtain ⟨hc, hs⟩ := q_bif hs
    cases hs
    rw [Bool.and_eq_true, Bool.and_eq_true, Bool.and_eq_true, Bool.and_eq_true, Bool.and_eq_true, Bool.and_eq_true] at hc
    obtain ⟨⟨⟨⟨⟨⟨c0, c1⟩, c2⟩, c3⟩, c4⟩, c5⟩, c6⟩ := hc
    have c0 : sE2.1 = false := by simpa using c0
    obtain ⟨rw', k1, k2, k3⟩ := s_cES f3 c4
    obtain ⟨y', rfl⟩ := s_idnV h0 k1 c1
    exact ⟨y', k1, ⟨⟨f1.1, f1.2.1, s_cLoS f3 k1 f1 c2⟩, s_cLS f3 k1 c3 f2, k2, s_heapT f3 c0 k1 k3 c5 c6 f4, f5⟩, Nat.eq_of_beq_eq_true hpc⟩
theorem s_okNS {n : sN} {ret : Option sA} {v : Option Value} (h0 : rv0.length = n0) (hE : q_E (rv0 ++ y) E) (hG : q_G dC dI dA (rv0 ++ y) ad Hb H0 E h H) (hr : q_ret (rv0 ++ y) ad ret v) (hs : s_okN n0 ret E h n = true) : ∃ x, q_ret (rv0 ++ x) ad n.1 v ∧ q_E (rv0 ++ x) n.2.1 ∧ q_G dC dI dA (rv0 ++ x) ad Hb H0 n.2.1 n.2.2 H := by
  obtain ⟨r2, nE, nh⟩ := n
  unfold s_okN at hs
  dsimp only at hs
  split at hs
  · cases hs
  · rename_i b hb
    rw [Bool.and_eq_true, Bool.and_eq_true, Bool.and_eq_true, Bool.and_eq_true, Bool.and_eq_true] at hs
    obtain ⟨⟨⟨⟨⟨c0, c1⟩, c2⟩, c3⟩, c4⟩, c5⟩ := hs
    have c0 : E.1 = false := by simpa using c0
    obtain ⟨rw', k1, k2, k3⟩ := s_cES hE c3
    obtain ⟨y', rfl⟩ := s_idnV h0 k1 c1
    refine ⟨y', ?_, k2, s_heapT hE c0 k1 k3 c4 c5 hG⟩
    split at c2
    · rename_i a c
      obtain ⟨w, w1, w2⟩ := hr
      exact ⟨w, w1, s_cAS hE k1 c2 w2⟩
    · exact hr
    · cases c2
end Bodies
