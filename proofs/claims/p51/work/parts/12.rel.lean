/-! What the second machine's words mean of the true one. -/
noncomputable def q_rf (ad : Nat → Nat) : Option Nat → Value
  | none => .null
  | some k => .ref (ad k)
noncomputable def q_A (rs : List Int) (ad : Nat → Nat) : sA → Value → Prop
  | .inl f, x => ∃ y : Int32, x = .int y ∧ s_val rs f = some y.toInt
  | .inr (.inl o), x => x = q_rf ad o
  | .inr (.inr (.inl z)), x => ∃ y : Int64, x = .long y ∧ ∀ k, z = some k → y = Int64.ofInt k
  | .inr (.inr (.inr _)), x => x.category = 1
noncomputable def q_L (rs : List Int) (ad : Nat → Nat) : List sA → List Value → Prop
  | [], vs => vs = []
  | a :: as, vs => ∃ v vs', vs = v :: vs' ∧ q_A rs ad a v ∧ q_L rs ad as vs'
section Vals
variable {rs : List Int} {ad : Nat → Nat} {E : sE}
theorem q_A.mono (e : List Int) {a : sA} {v : Value} (h : q_A rs ad a v) : q_A (rs ++ e) ad a v := by
  rcases a with f | o | z | u
  · obtain ⟨y, h1, h2⟩ := h
    exact ⟨y, h1, s_val_mono e h2⟩
  · exact h
  · exact h
  · exact h
theorem q_L.mono (e : List Int) : ∀ {as : List sA} {vs : List Value}, q_L rs ad as vs → q_L (rs ++ e) ad as vs
  | [], _, h => h
  | a :: as, _, ⟨v, vs', h1, h2, h3⟩ => ⟨v, vs', h1, h2.mono e, h3.mono e⟩
theorem q_cat {a : sA} {v : Value} (h : q_A rs ad a v) : v.category = s_cat a := by
  rcases a with z | o | z | u
  · obtain ⟨y, rfl, -⟩ := h
    rfl
  · have e : v = q_rf ad o := h
    subst e
    rcases o with _ | o <;> rfl
  · obtain ⟨y, rfl, -⟩ := h
    rfl
  · exact h
theorem q_L.len : ∀ {as : List sA} {vs : List Value}, q_L rs ad as vs → vs.length = as.length
  | [], vs, h => by rw [show vs = [] from h]; rfl
  | a :: as, vs, h => by
    obtain ⟨v, vs', rfl, -, h2⟩ := h
    simp [h2.len]
theorem q_L.get : ∀ {as : List sA} {vs : List Value} {k : Nat} {a : sA}, q_L rs ad as vs → as[k]? = some a → ∃ v, vs[k]? = some v ∧ q_A rs ad a v
  | [], _, k, a, _, h => by simp at h
  | a0 :: as, vs, 0, a, h, hk => by
    obtain ⟨v, vs', rfl, h1, -⟩ := h
    simp at hk
    subst hk
    exact ⟨v, rfl, h1⟩
  | a0 :: as, vs, k + 1, a, h, hk => by
    obtain ⟨v, vs', rfl, -, h2⟩ := h
    simp at hk
    obtain ⟨w, g1, g2⟩ := h2.get hk
    exact ⟨w, by simpa using g1, g2⟩
theorem q_L.set : ∀ {as : List sA} {vs : List Value} {k : Nat} {a : sA} {v : Value}, q_L rs ad as vs → q_A rs ad a v → q_L rs ad (as.set k a) (vs.set k v)
  | [], vs, k, a, v, h, _ => by
    rw [show vs = [] from h]
    exact rfl
  | a0 :: as, vs, 0, a, v, h, hv => by
    obtain ⟨w, vs', rfl, h1, h2⟩ := h
    exact ⟨v, vs', rfl, hv, h2⟩
  | a0 :: as, vs, k + 1, a, v, h, hv => by
    obtain ⟨w, vs', rfl, h1, h2⟩ := h
    exact ⟨w, vs'.set k v, rfl, h1, h2.set hv⟩
theorem q_L.cats : ∀ {as : List sA} {vs : List Value}, q_L rs ad as vs → (vs.map fun v => v.category).sum = s_cats as
  | [], vs, h => by rw [show vs = [] from h]; rfl
  | a :: as, vs, h => by
    obtain ⟨v, vs', rfl, h1, h2⟩ := h
    have e := h2.cats
    simp only [s_cats, List.map_cons, List.sum_cons] at e ⊢
    rw [e, q_cat h1]
end Vals
/-! Locals, cells, the heap. -/
noncomputable def q_Lo (rs : List Int) (ad : Nat → Nat) (lo : sL) (ls : Array Slot) (n : Nat) : Prop := ls.size = n ∧ lv_wf ls ∧ ∀ q ∈ lo, ∃ v, ls[q.1]? = some (.val v) ∧ q_A rs ad q.2 v
noncomputable def q_rv (ls : Array Slot) (i : Nat) : Value := match ls[i]? with
  | some (.val v) => v
  | _ => .null
/-- the true locals of those that the machine knows -/
noncomputable def q_lv (ls : Array Slot) (lo : sL) : List (Nat × Value) := lo.map (fun q => (q.1, q_rv ls q.1))
section Locals
variable {rs : List Int} {ad : Nat → Nat} {lo : sL} {ls : Array Slot} {n : Nat}
theorem q_Lo.mono (e : List Int) (h : q_Lo rs ad lo ls n) : q_Lo (rs ++ e) ad lo ls n := ⟨h.1, h.2.1, fun q hq => by obtain ⟨v, h1, h2⟩ := h.2.2 q hq; exact ⟨v, h1, h2.mono e⟩⟩
theorem q_Lo.has (h : q_Lo rs ad lo ls n) : lv_has ls n (q_lv ls lo) := by
  refine ⟨h.1, h.2.1, fun q hq => ?_⟩
  obtain ⟨q0, h0, rfl⟩ := List.mem_map.mp hq
  obtain ⟨v, h1, -⟩ := h.2.2 q0 h0
  show ls[q0.1]? = some (.val (q_rv ls q0.1))
  simp [q_rv, h1]
theorem q_lget : ∀ {lo : sL} {i : Nat} {a : sA}, s_lget lo i = some a → (i, a) ∈ lo
  | [], i, a, h => by cases h
  | q :: rr, i, a, h => by
    simp only [s_lget, cond_eq_ite] at h
    split at h
    · rename_i e
      cases h
      rw [← Nat.eq_of_beq_eq_true e]
      exact List.mem_cons_self
    · exact List.mem_cons_of_mem _ (q_lget h)
theorem q_Lo.get {i : Nat} {a : sA} (h : q_Lo rs ad lo ls n) (hi : s_lget lo i = some a) : ∃ v, ls[i]? = some (.val v) ∧ q_A rs ad a v := h.2.2 _ (q_lget hi)
theorem q_beqE (x y : Nat) : (x == y) = Nat.beq x y := by
  cases hb : Nat.beq x y with
  | true => simp [Nat.eq_of_beq_eq_true hb]
  | false => simp [Nat.ne_of_beq_eq_false hb]
/-- behind a store of one word -/
theorem q_Lo.put {i : Nat} {a : sA} {v : Value} {ls' : Array Slot} (h : q_Lo rs ad lo ls n) (hv : q_A rs ad a v)
    (h' : lv_has ls' n ((i, v) :: (q_lv ls lo).filter (fun q => !(q.1 == i) && !(q.1 + 1 == i && q.2.category == 2)))) : q_Lo rs ad (s_lset lo i a) ls' n := by
  refine ⟨h'.1, h'.2.1, fun q hq => ?_⟩
  rcases List.mem_cons.mp hq with e | hq
  · subst e
    exact ⟨v, h'.2.2 (i, v) List.mem_cons_self, hv⟩
  · obtain ⟨hq1, hq2⟩ := List.mem_filter.mp hq
    obtain ⟨w, h1, h2⟩ := h.2.2 q hq1
    have hw : q_rv ls q.1 = w := by simp [q_rv, h1]
    refine ⟨w, ?_, h2⟩
    have := h'.2.2 (q.1, w) (List.mem_cons_of_mem _ (List.mem_filter.mpr ⟨List.mem_map.mpr ⟨q, hq1, by rw [hw]⟩, ?_⟩))
    · exact this
    · have hc := q_cat h2
      show (!(q.1 == i) && !(q.1 + 1 == i && w.category == 2)) = true
      rw [hc, q_beqE, q_beqE, q_beqE]
      exact hq2
/-- behind a store of two -/
theorem q_Lo.put2 {i : Nat} {a : sA} {v : Value} {ls' : Array Slot} (h : q_Lo rs ad lo ls n) (hv : q_A rs ad a v)
    (h' : lv_has ls' n ((i, v) :: (q_lv ls lo).filter (fun q => !(q.1 == i) && (!(q.1 == i + 1) && !(q.1 + 1 == i && q.2.category == 2))))) : q_Lo rs ad (s_lset2 lo i a) ls' n := by
  refine ⟨h'.1, h'.2.1, fun q hq => ?_⟩
  rcases List.mem_cons.mp hq with e | hq
  · subst e
    exact ⟨v, h'.2.2 (i, v) List.mem_cons_self, hv⟩
  · obtain ⟨hq1, hq2⟩ := List.mem_filter.mp hq
    obtain ⟨w, h1, h2⟩ := h.2.2 q hq1
    have hw : q_rv ls q.1 = w := by simp [q_rv, h1]
    refine ⟨w, ?_, h2⟩
    have := h'.2.2 (q.1, w) (List.mem_cons_of_mem _ (List.mem_filter.mpr ⟨List.mem_map.mpr ⟨q, hq1, by rw [hw]⟩, ?_⟩))
    · exact this
    · have hc := q_cat h2
      show (!(q.1 == i) && (!(q.1 == i + 1) && !(q.1 + 1 == i && w.category == 2))) = true
      rw [hc, q_beqE, q_beqE, q_beqE, q_beqE]
      exact hq2
end Locals
/-- a row whose length is a name's is open: it is read, never written -/
noncomputable def s_cls (c : sC) : Bool := match c with
  | .inl ro => s_nil ro.2.1.1
  | _ => true
/-- where a row of numbers lies: a row of ours; or the script, which is open -/
noncomputable def q_RC (dA : FieldType → ClassId) (b0 a : Nat) (H : Heap) (ro : sR) (n : Nat) (g : Nat → Int32) : Prop := H[a]? = some (vp_cell (dA ro.1) (n, .inl g)) ∨ ((ro.1 = .int ∧ s_nil ro.2.1.1 = false ∧ a = dA .short ∧ a < b0) ∧ ∃ scr : Cell, H[a]? = some scr ∧ scr.vm ≠ .unknown ∧ scr.slots.size = n ∧ ∀ j : Nat, j < n → scr.slots[j]? = some (.int (g j)))
theorem q_RC.cl {dA : FieldType → ClassId} {b0 a : Nat} {H : Heap} {ro : sR} {n : Nat} {g : Nat → Int32} (h : q_RC dA b0 a H ro n g) (hc : s_nil ro.2.1.1 = true ∨ b0 ≤ a) : H[a]? = some (vp_cell (dA ro.1) (n, .inl g)) := by
  rcases h with h | ⟨⟨-, h1, -, h2⟩, -⟩
  · exact h
  · rcases hc with hc | hc
    · rw [h1] at hc; cases hc
    · omega
theorem q_RC.as {dA : FieldType → ClassId} {b0 a : Nat} {H H1 : Heap} {ro r2 : sR} {n : Nat} {g : Nat → Int32} (h : q_RC dA b0 a H ro n g) (e : H1[a]? = H[a]?) (e1 : r2.1 = ro.1) (e2 : s_nil r2.2.1.1 = s_nil ro.2.1.1) : q_RC dA b0 a H1 r2 n g := by
  rcases h with h | ⟨⟨h0, h1, h2⟩, h3⟩
  · exact Or.inl (by rw [e, e1]; exact h)
  · exact Or.inr ⟨⟨e1.trans h0, e2.trans h1, h2⟩, by rw [e]; exact h3⟩
theorem q_RC.lt {dA : FieldType → ClassId} {b0 a : Nat} {H : Heap} {ro : sR} {n : Nat} {g : Nat → Int32} (h : q_RC dA b0 a H ro n g) : a < H.size := by
  rcases h with h | ⟨-, scr, h, -⟩
  · exact (Array.getElem?_eq_some_iff.mp h).1
  · exact (Array.getElem?_eq_some_iff.mp h).1
/-- what the cell at a place is -/
noncomputable def q_C (dC : Nat → ClassId) (dI : Nat → Nat → Nat) (dA : FieldType → ClassId) (rs : List Int) (ad : Nat → Nat) (b0 a : Nat) (H : Heap) : sC → Prop
  | .inl ro => ∃ (n : Nat) (g : Nat → Int32), q_RC dA b0 a H ro n g ∧ q_Ro rs n g ro ∧ (ro.1 = .int ∨ ro.1 = .byte ∨ ro.1 = .boolean ∨ ro.1 = .char) ∧ (ro.2.1.1 = [] → b0 ≤ a)
  | .inr (.inl n) => b0 ≤ a ∧ ∃ g : Nat → Int64, H[a]? = some (vp_cell (dA .long) (n, .inr (.inl g)))
  | .inr (.inr (.inl (n, cs))) => ∃ g : Nat → Option Nat, H[a]? = some (vp_cell (dA (.array .int)) (n, .inr (.inr (.inr (.inr g))))) ∧ ∀ (j : Nat) (c : Option Nat), cs[j]? = some c → va_rf (g j) = q_rf ad c
  | .inr (.inr (.inr (ci, fs))) => b0 ≤ a ∧ ∃ (vs : List Value) (q : vw_C), q_L rs ad fs vs ∧ vwCl[ci]? = some q ∧ t_OB a (dC ci) q.2.2 (dI ci) H (vp_V vs)
noncomputable def q_pair (dA : FieldType → ClassId) (b : Nat) (H : Heap) (a c : Nat) : Prop := (b ≤ a ∧ b ≤ c) ∧ ∃ g1 g2 : Nat → Int32, H[a]? = some (vp_cell (dA .int) (40, .inl g1)) ∧ H[c]? = some (vp_cell (dA .int) (40, .inl g2)) ∧ ∀ j : Nat, j < 40 → (g1 j).toInt = 48 ∨ (g2 j).toInt ≤ 39
noncomputable def q_acts (dA : FieldType → ClassId) (b : Nat) (H : Heap) (a : Nat) : Prop := b ≤ a ∧ ∃ g : Nat → Int32, H[a]? = some (vp_cell (dA .int) (240, .inl g)) ∧ ∀ j : Nat, j < 80 → (g (3 * j)).toInt = 103 → 0 ≤ (g (3 * j + 2)).toInt ∧ (g (3 * j + 2)).toInt ≤ 3
/-- a cell is named, and is open -/
noncomputable def q_isO (h : sH) (i : Nat) : Prop := ∃ x ∈ h, x.1 = i ∧ s_cls x.2 = false
/-- what holds of some open rows together: where a part of the rule isn't a number, what is left of it is a part; who goes goes to a place -/
noncomputable def q_J (dA : FieldType → ClassId) (b : Nat) (ad : Nat → Nat) (h : sH) (H : Heap) : Prop :=
  (q_isO h 10 → q_isO h 11 → q_pair dA b H (ad 10) (ad 11)) ∧ (q_isO h 14 → q_isO h 15 → q_pair dA b H (ad 14) (ad 15)) ∧ (q_isO h 89 → q_acts dA b H (ad 89))
/-- the heap: nothing older than the law's start has changed; nor, since the body's start, a cell that isn't named; the cells; their places, while cells are made; open rows -/
noncomputable def q_G (dC : Nat → ClassId) (dI : Nat → Nat → Nat) (dA : FieldType → ClassId) (rs : List Int) (ad : Nat → Nat) (Hb H0 : Heap) (E : sE) (h : sH) (H : Heap) : Prop :=
  (∀ q : Nat, q < Hb.size → H[q]? = Hb[q]?) ∧ (∀ q : Nat, q < H0.size → (∀ x ∈ h, ad x.1 ≠ q) → H[q]? = H0[q]?) ∧ (H0.size ≤ H.size ∧ Hb.size ≤ H.size) ∧ (E.1 = true → ∀ j, ad (h.length + j) = H.size + j) ∧ (∀ x ∈ h, q_C dC dI dA rs ad Hb.size (ad x.1) H x.2) ∧ (∀ x ∈ h, ∀ y ∈ h, ad x.1 = ad y.1 → x.1 = y.1) ∧ (E.1 = false → q_J dA Hb.size ad h H)
theorem q_hget {H : Heap} {a : Nat} {c : Cell} (h : H[a]? = some c) : a < H.size := (Array.getElem?_eq_some_iff.mp h).1
theorem q_pair.kept {dA : FieldType → ClassId} {b : Nat} {H H1 : Heap} {a c : Nat} (h : q_pair dA b H a c) (ha : H1[a]? = H[a]?) (hc : H1[c]? = H[c]?) : q_pair dA b H1 a c := by
  obtain ⟨h0, g1, g2, h1, h2, h3⟩ := h
  exact ⟨h0, g1, g2, by rw [ha]; exact h1, by rw [hc]; exact h2, h3⟩
theorem q_acts.kept {dA : FieldType → ClassId} {b : Nat} {H H1 : Heap} {a : Nat} (h : q_acts dA b H a) (ha : H1[a]? = H[a]?) : q_acts dA b H1 a := by
  obtain ⟨h0, g1, h1, h3⟩ := h
  exact ⟨h0, g1, by rw [ha]; exact h1, h3⟩
theorem q_J.kept {dA : FieldType → ClassId} {b : Nat} {ad : Nat → Nat} {h h1 : sH} {H H1 : Heap} (hJ : q_J dA b ad h H) (ho : ∀ i, q_isO h1 i → q_isO h i ∧ H1[ad i]? = H[ad i]?) : q_J dA b ad h1 H1 :=
  ⟨fun a c => (hJ.1 (ho _ a).1 (ho _ c).1).kept (ho _ a).2 (ho _ c).2, fun a c => (hJ.2.1 (ho _ a).1 (ho _ c).1).kept (ho _ a).2 (ho _ c).2, fun a => (hJ.2.2 (ho _ a).1).kept (ho _ a).2⟩
section Heaps
variable {dC : Nat → ClassId} {dI : Nat → Nat → Nat} {dA : FieldType → ClassId} {rs : List Int} {ad : Nat → Nat} {b0 : Nat} {Hb H0 H H1 : Heap} {E E1 : sE} {h : sH}
theorem q_C.mono (e : List Int) {a : Nat} {c : sC} (hc : q_C dC dI dA rs ad b0 a H c) : q_C dC dI dA (rs ++ e) ad b0 a H c := by
  rcases c with ro | n | ⟨n, f⟩ | ⟨ci, fs⟩
  · obtain ⟨n, g, h1, h2, h3⟩ := hc
    exact ⟨n, g, h1, h2.mono e, h3⟩
  · exact hc
  · exact hc
  · obtain ⟨h0, vs, q, h1, h2, h3⟩ := hc
    exact ⟨h0, vs, q, h1.mono e, h2, h3⟩
theorem q_C.kept {a : Nat} {c : sC} (hc : q_C dC dI dA rs ad b0 a H c) (e : H1[a]? = H[a]?) : q_C dC dI dA rs ad b0 a H1 c := by
  rcases c with ro | n | ⟨n, f⟩ | ⟨ci, fs⟩
  · obtain ⟨n, g, h1, h2⟩ := hc
    exact ⟨n, g, h1.as e rfl rfl, h2⟩
  · obtain ⟨h0, g, h1⟩ := hc
    exact ⟨h0, g, by rw [e]; exact h1⟩
  · obtain ⟨g, h1, h2⟩ := hc
    exact ⟨g, by rw [e]; exact h1, h2⟩
  · obtain ⟨h0, vs, q, h1, h2, h3⟩ := hc
    exact ⟨h0, vs, q, h1, h2, h3.kept e⟩
theorem q_C.lt {a : Nat} {c : sC} (hc : q_C dC dI dA rs ad b0 a H c) : a < H.size := by
  rcases c with ro | n | ⟨n, f⟩ | ⟨ci, fs⟩
  · obtain ⟨n, g, h1, h2⟩ := hc
    exact h1.lt
  · obtain ⟨-, g, h1⟩ := hc
    exact (Array.getElem?_eq_some_iff.mp h1).1
  · obtain ⟨g, h1, h2⟩ := hc
    exact (Array.getElem?_eq_some_iff.mp h1).1
  · obtain ⟨-, vs, q, h1, h2, cell, h3, -⟩ := hc
    exact (Array.getElem?_eq_some_iff.mp h3).1
theorem q_G.mono (e : List Int) (hG : q_G dC dI dA rs ad Hb H0 E h H) : q_G dC dI dA (rs ++ e) ad Hb H0 E h H := ⟨hG.1, hG.2.1, hG.2.2.1, hG.2.2.2.1, fun x hx => (hG.2.2.2.2.1 x hx).mono e, hG.2.2.2.2.2⟩
theorem q_G.env (hG : q_G dC dI dA rs ad Hb H0 E h H) (e : E1.1 = E.1) : q_G dC dI dA rs ad Hb H0 E1 h H := ⟨hG.1, hG.2.1, hG.2.2.1, by rw [e]; exact hG.2.2.2.1, hG.2.2.2.2.1, hG.2.2.2.2.2.1, by rw [e]; exact hG.2.2.2.2.2.2⟩
theorem s_hgetS : ∀ {h : sH} {k : Nat} {c : sC}, s_hget h k = some c → (k, c) ∈ h
  | [], k, c, hk => by cases hk
  | q :: r, k, c, hk => by
    unfold s_hget at hk
    cases e : Nat.beq q.1 k with
    | true =>
      rw [e] at hk
      cases hk
      rw [← Nat.eq_of_beq_eq_true e]
      exact List.mem_cons_self
    | false =>
      rw [e] at hk
      exact List.mem_cons_of_mem _ (s_hgetS hk)
theorem s_hsetS {k : Nat} {c : sC} {x : Nat × sC} (hx : x ∈ s_hset h k c) : ∃ y ∈ h, y.1 = x.1 ∧ ((x.1 = k ∧ x.2 = c) ∨ (x = y ∧ x.1 ≠ k)) := by
  obtain ⟨y, h1, rfl⟩ := List.mem_map.mp hx
  refine ⟨y, h1, ?_⟩
  cases e : Nat.beq y.1 k with
  | true => exact ⟨rfl, Or.inl ⟨Nat.eq_of_beq_eq_true e, rfl⟩⟩
  | false => exact ⟨rfl, Or.inr ⟨rfl, Nat.ne_of_beq_eq_false e⟩⟩
theorem s_hsetI {k : Nat} {c : sC} {x : Nat × sC} (hx : x ∈ h) : ∃ y ∈ s_hset h k c, y.1 = x.1 := by
  refine ⟨_, List.mem_map.mpr ⟨x, hx, rfl⟩, ?_⟩
  cases Nat.beq x.1 k <;> rfl
theorem q_G.set {k : Nat} {c0 c : sC} (hG : q_G dC dI dA rs ad Hb H0 E h H) (hk : s_hget h k = some c0) (hcl : s_cls c = true) (hb : Hb.size ≤ ad k) (hz : H1.size = H.size) (ho : ∀ q : Nat, q ≠ ad k → H1[q]? = H[q]?) (hc : q_C dC dI dA rs ad Hb.size (ad k) H1 c) : q_G dC dI dA rs ad Hb H0 E (s_hset h k c) H1 := by
  have hm := s_hgetS hk
  obtain ⟨g1, g2, g3, g4, g5, g6, g7⟩ := hG
  refine ⟨fun q hq => (ho q (by omega)).trans (g1 q hq), fun q hq hn => ?_, by rw [hz]; exact g3, by rw [hz]; show E.1 = true → ∀ j, ad ((h.map _).length + j) = _; rw [List.length_map]; exact g4, fun x hx => ?_, fun x hx y hy e => ?_, fun hf => (g7 hf).kept fun i ⟨x, hx, hi, hc⟩ => ?_⟩
  · have hne : q ≠ ad k := by
      obtain ⟨y, h1, h2⟩ := s_hsetI (k := k) (c := c) hm
      have := hn y h1
      rw [h2] at this
      exact fun e => this e.symm
    refine (ho q hne).trans (g2 q hq fun x hx => ?_)
    obtain ⟨y, h1, h2⟩ := s_hsetI (k := k) (c := c) hx
    rw [← h2]
    exact hn y h1
  · obtain ⟨y, h1, h2, h3⟩ := s_hsetS hx
    rcases h3 with ⟨h4, h5⟩ | ⟨h4, h5⟩
    · rw [h4, h5]
      exact hc
    · rw [h4]
      have hne : ad y.1 ≠ ad k := fun e => h5 (by rw [← h2]; exact g6 y h1 (k, c0) hm e)
      exact (g5 y h1).kept (ho _ hne)
  · obtain ⟨x', h1, h2, -⟩ := s_hsetS hx
    obtain ⟨y', h3, h4, -⟩ := s_hsetS hy
    rw [← h2, ← h4] at e ⊢
    exact g6 x' h1 y' h3 e
  · obtain ⟨y, h1, h2, h3⟩ := s_hsetS hx
    rcases h3 with ⟨h4, h5⟩ | ⟨h4, h5⟩
    · rw [h5, hcl] at hc
      cases hc
    · rw [h4] at hi hc
      have hne : ad y.1 ≠ ad k := fun e => h5 (by rw [← h2]; exact g6 y h1 (k, c0) hm e)
      exact ⟨⟨y, h1, hi, hc⟩, by rw [← hi]; exact ho _ hne⟩
/-- the same cell, told otherwise -/
theorem q_G.tell {k : Nat} {c0 c : sC} (hG : q_G dC dI dA rs ad Hb H0 E h H) (hk : s_hget h k = some c0) (hcl : s_cls c = s_cls c0) (hc : q_C dC dI dA rs ad Hb.size (ad k) H c) : q_G dC dI dA rs ad Hb H0 E (s_hset h k c) H := by
  have hm := s_hgetS hk
  obtain ⟨g1, g2, g3, g4, g5, g6, g7⟩ := hG
  refine ⟨g1, fun q hq hn => ?_, g3, by show E.1 = true → ∀ j, ad ((h.map _).length + j) = _; rw [List.length_map]; exact g4, fun x hx => ?_, fun x hx y hy e => ?_, fun hf => (g7 hf).kept fun i ⟨x, hx, hi, hc⟩ => ⟨?_, rfl⟩⟩
  · refine g2 q hq fun x hx => ?_
    obtain ⟨y, h1, h2⟩ := s_hsetI (k := k) (c := c) hx
    rw [← h2]
    exact hn y h1
  · obtain ⟨y, h1, h2, h3⟩ := s_hsetS hx
    rcases h3 with ⟨h4, h5⟩ | ⟨h4, h5⟩
    · rw [h4, h5]
      exact hc
    · rw [h4]
      exact g5 y h1
  · obtain ⟨x', h1, h2, -⟩ := s_hsetS hx
    obtain ⟨y', h3, h4, -⟩ := s_hsetS hy
    rw [← h2, ← h4] at e ⊢
    exact g6 x' h1 y' h3 e
  · obtain ⟨y, h1, h2, h3⟩ := s_hsetS hx
    rcases h3 with ⟨h4, h5⟩ | ⟨h4, h5⟩
    · rw [h5, hcl] at hc
      exact ⟨(k, c0), hm, by rw [← h4]; exact hi, hc⟩
    · rw [h4] at hi hc
      exact ⟨y, h1, hi, hc⟩
theorem s_idsS (hi : s_ids h = true) {x : Nat × sC} (hx : x ∈ h) : x.1 < h.length := by
  have := List.all_eq_true.mp hi x hx
  exact Nat.le_of_ble_eq_true this
/-- new cells -/
theorem q_G.app {cs : sH} (hG : q_G dC dI dA rs ad Hb H0 E h H) (hE : E.1 = true) (hi : s_ids h = true) (hn : ∀ (j : Nat) (x : Nat × sC), cs[j]? = some x → x.1 = h.length + j) (hz : H1.size = H.size + cs.length) (ho : ∀ q : Nat, q < H.size → H1[q]? = H[q]?) (hc : ∀ (j : Nat) (x : Nat × sC), cs[j]? = some x → q_C dC dI dA rs ad Hb.size (H.size + j) H1 x.2) : q_G dC dI dA rs ad Hb H0 E (h ++ cs) H1 := by
  obtain ⟨g1, g2, ⟨g3, g3'⟩, g4, g5, g6, g7⟩ := hG
  have g4 := g4 hE
  have new : ∀ x ∈ cs, ∃ j, j < cs.length ∧ x.1 = h.length + j ∧ ad x.1 = H.size + j ∧ q_C dC dI dA rs ad Hb.size (ad x.1) H1 x.2 := fun x hx => by
    obtain ⟨j, hj⟩ := List.getElem?_of_mem hx
    have e := hn j x hj
    refine ⟨j, (List.getElem?_eq_some_iff.mp hj).1, e, by rw [e, g4], ?_⟩
    rw [e, g4]
    exact hc j x hj
  have old : ∀ x ∈ h, ad x.1 < H.size := fun x hx => (g5 x hx).lt
  refine ⟨fun q hq => (ho q (by omega)).trans (g1 q hq), fun q hq hn => (ho q (by omega)).trans (g2 q hq (fun x hx => hn x (List.mem_append_left _ hx))), by omega, fun _ j => ?_, fun x hx => ?_, fun x hx y hy e => ?_, (fun hf => by rw [hE] at hf; cases hf)⟩
  · rw [List.length_append, Nat.add_assoc, g4, hz, Nat.add_assoc]
  · rcases List.mem_append.mp hx with hx | hx
    · exact (g5 x hx).kept (ho _ (old x hx))
    · obtain ⟨j, -, -, -, h4⟩ := new x hx
      exact h4
  · rcases List.mem_append.mp hx with hx | hx
    · rcases List.mem_append.mp hy with hy | hy
      · exact g6 x hx y hy e
      · obtain ⟨j, -, -, h3, -⟩ := new y hy
        have := old x hx
        omega
    · obtain ⟨i, -, h2, h3, -⟩ := new x hx
      rcases List.mem_append.mp hy with hy | hy
      · have := old y hy
        omega
      · obtain ⟨j, -, h5, h6, -⟩ := new y hy
        omega
theorem q_obj {q ci : Nat} {fs : List sA} (hG : q_G dC dI dA rs ad Hb H0 E h H) (ho : s_obj h q = some (ci, fs)) : s_hget h q = some (.inr (.inr (.inr (ci, fs)))) ∧ Hb.size ≤ ad q ∧ ∃ (vs : List Value) (w : vw_C), q_L rs ad fs vs ∧ vwCl[ci]? = some w ∧ t_OB (ad q) (dC ci) w.2.2 (dI ci) H (vp_V vs) := by
  have h1 : s_hget h q = some (.inr (.inr (.inr (ci, fs)))) := by
    unfold s_obj at ho
    split at ho
    · rename_i o e
      cases ho
      exact e
    · cases ho
  exact ⟨h1, hG.2.2.2.2.1 _ (s_hgetS h1)⟩
theorem q_row {q : Nat} {ro : sR} (hG : q_G dC dI dA rs ad Hb H0 E h H) (ho : s_row h q = some ro) : s_hget h q = some (.inl ro) ∧ ∃ (n : Nat) (g : Nat → Int32), q_RC dA Hb.size (ad q) H ro n g ∧ q_Ro rs n g ro ∧ (ro.1 = .int ∨ ro.1 = .byte ∨ ro.1 = .boolean ∨ ro.1 = .char) ∧ (ro.2.1.1 = [] → Hb.size ≤ ad q) := by
  have h1 : s_hget h q = some (.inl ro) := by
    unfold s_row at ho
    split at ho
    · rename_i o e
      cases ho
      exact e
    · cases ho
  exact ⟨h1, hG.2.2.2.2.1 _ (s_hgetS h1)⟩
theorem q_rar {q n : Nat} {cs : List (Option Nat)} (hG : q_G dC dI dA rs ad Hb H0 E h H) (ho : s_rar h q = some (n, cs)) : ∃ g : Nat → Option Nat, H[ad q]? = some (vp_cell (dA (.array .int)) (n, .inr (.inr (.inr (.inr g))))) ∧ ∀ (j : Nat) (c : Option Nat), cs[j]? = some c → va_rf (g j) = q_rf ad c := by
  have h1 : s_hget h q = some (.inr (.inr (.inl (n, cs)))) := by
    unfold s_rar at ho
    split at ho
    · rename_i o e
      cases ho
      exact e
    · cases ho
  exact hG.2.2.2.2.1 _ (s_hgetS h1)
theorem q_lrow {q n : Nat} (hG : q_G dC dI dA rs ad Hb H0 E h H) (ho : s_lrow h q = some n) : s_hget h q = some (.inr (.inl n)) ∧ Hb.size ≤ ad q ∧ ∃ g : Nat → Int64, H[ad q]? = some (vp_cell (dA .long) (n, .inr (.inl g))) := by
  have h1 : s_hget h q = some (.inr (.inl n)) := by
    unfold s_lrow at ho
    split at ho
    · rename_i o e
      cases ho
      exact e
    · cases ho
  exact ⟨h1, hG.2.2.2.2.1 _ (s_hgetS h1)⟩
end Heaps
/-- the array classes that are used -/
noncomputable def q_tys (dA : FieldType → ClassId) : List (ClassId × FieldType) := [(dA .int, .int), (dA .byte, .byte), (dA .boolean, .boolean), (dA .char, .char), (dA .long, .long), (dA (.array .int), .array .int)]
/-- the words of a throw that don't keep by themselves, and the texts -/
noncomputable def q_iS (n : String) : MethodName := ⟨n, "<init>", "(Ljava/lang/String;)V"⟩
noncomputable def q_nse : String := "java/util/NoSuchElementException"
noncomputable def q_xw : List Cond := [Cond.declares (q_iS "java/lang/RuntimeException"), Cond.declares (q_iS "java/lang/Exception"), Cond.declares (q_iS "java/lang/Throwable"), Cond.castable q_nse q_nse]
noncomputable def q_xs : List (Nat × String) := [(121, "there is no such one of PEOPLE"), (142, "nothing such is told of PEOPLE"), (147, "there is no such CLOTH"), (164, "nothing such is told of CLOTHS"), (256, "there is no such piece in THE BOX"), (449, "the ROW has no such number")]
noncomputable def q_KX (Hb : Heap) (U : State) : Prop := (∀ w ∈ q_xw, va_Nw w U) ∧ (∀ q ∈ q_xs, ∃ sa, vk_R "SkirtsByTheDay" q.1 q.2 sa U) ∧ vx_Zq Bundle.tN "UNASSIGNED_STACK" Bundle.steD (fun q => Hb.size ≤ q) U Hb ∧ vx_Zq Bundle.tN "SUPPRESSED_SENTINEL" Bundle.listD (fun q => Hb.size ≤ q) U Hb
/-- the script is a row of ints -/
noncomputable def q_scr (dA : FieldType → ClassId) (Hb : Heap) (U : State) : Prop := ∀ scr : Cell, Hb[dA .short]? = some scr → U.isArrayOf scr .int
/-- what the tables say at a state, beside the words: classes, array classes, the nest's words, what a throw needs -/
noncomputable def q_K (dC : Nat → ClassId) (dI : Nat → Nat → Nat) (dA : FieldType → ClassId) (Hb : Heap) (U : State) : Prop :=
  va_K (dC, dI) vwCl (q_tys dA) U ∧ (∀ w ∈ nw, va_Nw w U) ∧ (va_AOA .int U ∧ q_scr dA Hb U) ∧ q_KX Hb U
