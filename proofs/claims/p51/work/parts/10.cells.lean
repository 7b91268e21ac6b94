/-! Rows: their slots by turns (slot j is as field j mod the number of fields says), what was read or written last, what holds of all slots below a number. -/
noncomputable def s_nil {α : Type} : List α → Bool
  | [] => true
  | _ => false
theorem s_nilS {α : Type} {l : List α} (h : s_nil l = true) : l = [] := by
  cases l with
  | nil => rfl
  | cons a r => cases h
/-- the least of a form, with two of what is known -/
noncomputable def s_lowQ (E : sE) (f : sF) : List (sT × Int) → Int → Int
  | [], l => l
  | q :: r, l => bif s_shr q.1 f.1 then (match s_bnd E (s_addT f.1 (s_mulT (-1) q.1), f.2) with
    | none => s_lowQ E f r l
    | some i => s_lowQ E f r (s_max l (i.1 + q.2))) else s_lowQ E f r l
noncomputable def s_bnd2 (b : Bool) (E : sE) (f : sF) : Option pI := match s_bnd E f with
  | none => none
  | some i => bif b && s_le (i.1 + 1) i.2 then some (s_lowQ E f E.2.2.1 i.1, -(s_lowQ E (s_mul (-1) f) E.2.2.1 (-i.2))) else some i
theorem s_lowQS {rs : List Int} {E : sE} {f : sF} {v : Int} (hE : q_E rs E) (hf : s_val rs f = some v) : ∀ {G : List (sT × Int)} {l : Int}, (∀ q ∈ G, ∃ v, s_ev rs q.1 = some v ∧ q.2 ≤ v) → l ≤ v → s_lowQ E f G l ≤ v
  | [], l, _, h => h
  | q :: r, l, hG, h => by
    have hr := fun x (hx : x ∈ r) => hG x (List.mem_cons_of_mem _ hx)
    unfold s_lowQ
    cases s_shr q.1 f.1 with
    | false => exact s_lowQS hE hf hr h
    | true =>
      obtain ⟨w, h1, h2⟩ := hG q List.mem_cons_self
      simp only [cond_true]
      split
      · exact s_lowQS hE hf hr h
      · rename_i i hi
        obtain ⟨a, g1, rfl⟩ := s_val_iff.mp hf
        have g := (s_bndS hE hi (s_val_iff.mpr ⟨_, s_addTS g1 (s_mulTS (c := -1) h1), rfl⟩)).1
        exact s_lowQS hE (s_val_iff.mpr ⟨a, g1, rfl⟩) hr (s_max_le h (by omega))
theorem s_bnd2S {rs : List Int} {b : Bool} {E : sE} {f : sF} {i : pI} {v : Int} (hE : q_E rs E) (h : s_bnd2 b E f = some i) (hf : s_val rs f = some v) : i.1 ≤ v ∧ v ≤ i.2 := by
  unfold s_bnd2 at h
  split at h
  · cases h
  · rename_i j hj
    have g := s_bndS hE hj hf
    cases hb : b && s_le (j.1 + 1) j.2 with
    | false =>
      rw [hb] at h
      cases h
      exact g
    | true =>
      rw [hb] at h
      cases h
      have k1 := s_lowQS hE hf hE.2.2.1 g.1
      have k2 := s_lowQS hE (s_mulS (c := -1) hf) hE.2.2.1 (show -j.2 ≤ -1 * v by omega)
      exact ⟨k1, by show v ≤ -_; omega⟩
noncomputable abbrev sW : Type := sF ⊕ (pI × Option sF)
noncomputable abbrev sR : Type := FieldType × sF × List sW × List (sF × sF) × List (sF × pI)
noncomputable def s_divs (P : Nat) : sT → Bool
  | [] => true
  | q :: r => s_ie (q.2 % (P : Int)) 0 && s_divs P r
/-- which fields an index may mean -/
noncomputable def s_res (P : Nat) (f : sF) (i : pI) : List Nat := bif s_divs P f.1 then [(f.2 % (P : Int)).toNat] else bif s_le (P : Int) (i.2 - i.1 + 1) then List.range P else (List.range (i.2 - i.1 + 1).toNat).map (fun (t : Nat) => ((i.1 + (t : Int)) % (P : Int)).toNat)
noncomputable def s_wI (E : sE) : sW → Option (pI × Option sF)
  | .inl f => match s_bnd E f with
    | none => none
    | some i => some (i, none)
  | .inr q => some q
noncomputable def s_up (a b : Option sF) : Option sF := match a, b with
  | some u, some v => bif s_eqF u v then some u else none
  | _, _ => none
noncomputable def s_jn (a b : pI × Option sF) : pI × Option sF := ((s_min a.1.1 b.1.1, s_max a.1.2 b.1.2), s_up a.2 b.2)
noncomputable def s_jns (E : sE) (fs : List sW) : List Nat → Option (pI × Option sF)
  | [] => none
  | q :: r => match fs[q]? with
    | none => none
    | some w => match s_wI E w with
      | none => none
      | some a => match r with
        | [] => some a
        | _ => match s_jns E fs r with
          | none => none
          | some b => some (s_jn a b)
noncomputable def s_find (f : sF) : List (sF × sF) → Option sF
  | [] => none
  | q :: r => bif s_eqF q.1 f then some q.2 else s_find f r
noncomputable def s_fct (E : sE) (f : sF) : List (sF × pI) → pI → pI
  | [], b => b
  | q :: r, b => bif s_gez E (s_sub q.1 f) 1 then s_fct E f r (s_max b.1 q.2.1, s_min b.2 q.2.2) else s_fct E f r b
noncomputable def s_one (fs : List sW) : List Nat → Option sF
  | [q] => match fs[q]? with
    | some (.inl w) => some w
    | _ => none
  | _ => none
noncomputable def s_upE (E : sE) (v : sF) : Option sF → sE
  | none => E
  | some u => s_ge E (s_sub u v)
noncomputable def s_rd (E : sE) (ro : sR) (f : sF) : Option (sE × sF × sR) := match ro with
  | (ty, len, fs, ch, fa) => match s_find f ch with
    | some v => some (E, v, ro)
    | none => match s_bnd2 (Nat.blt 1 fs.length) E f with
      | none => none
      | some i => match s_one fs (s_res fs.length f i) with
        | some w => some (E, w, ro)
        | none => match s_jns E fs (s_res fs.length f i) with
          | none => none
          | some (b, u) => match s_new E (s_fct E f fa b) with
            | (E1, v) => some (s_upE E1 v u, v, (ty, len, fs, (f, v) :: ch.take 7, fa))
noncomputable def s_wj (E : sE) (x : sF) (w : sW) : sW := match w with
  | .inl g => bif s_eqF g x then w else (match s_bnd E g, s_bnd E x with
    | some a, some b => .inr ((s_min a.1 b.1, s_max a.2 b.2), none)
    | _, _ => .inr (s_any, none))
  | .inr (i, u) => match s_bnd E x with
    | some b => .inr ((s_min i.1 b.1, s_max i.2 b.2), (match u with
      | none => none
      | some uf => bif s_gez E (s_sub uf x) 0 then some uf else none))
    | none => .inr (s_any, none)
noncomputable def s_mem (k : Nat) : List Nat → Bool
  | [] => false
  | q :: r => Nat.beq q k || s_mem k r
noncomputable def s_wk (E : sE) (x : sF) (rs : List Nat) : Nat → List sW → List sW
  | _, [] => []
  | k, w :: r => (bif s_mem k rs then s_wj E x w else w) :: s_wk E x rs (k + 1) r
noncomputable def s_apart (E : sE) (f g : sF) : Bool := match s_bnd E (s_sub f g) with
  | none => false
  | some i => s_le 1 i.1 || s_le i.2 (-1) || s_isNe (s_sub f g) E.2.2.2
noncomputable def s_drop (E : sE) (f : sF) : List (sF × sF) → List (sF × sF)
  | [] => []
  | q :: r => bif s_apart E f q.1 then q :: s_drop E f r else s_drop E f r
noncomputable def s_inI (E : sE) (x : sF) (j : pI) : Bool := match s_bnd E x with
  | none => false
  | some i => s_le j.1 i.1 && s_le i.2 j.2
noncomputable def s_ffa (E : sE) (f x : sF) : List (sF × pI) → List (sF × pI)
  | [] => []
  | q :: r => bif s_inI E x q.2 || s_gez E (s_sub f q.1) 0 then q :: s_ffa E f x r else s_ffa E f x r
noncomputable def s_wkR (E : sE) (ro : sR) (f x : sF) (rs : List Nat) : sR := match ro with
  | (ty, len, fs, ch, fa) => (ty, len, s_wk E x rs 0 fs, (f, x) :: (s_drop E f ch).take 7, s_ffa E f x fa)
noncomputable def s_wr (E : sE) (ro : sR) (f x : sF) : Option sR := match ro with
  | (ty, (t, n), fs, ch, fa) => match t with
    | _ :: _ => none
    | [] => match s_bnd2 (Nat.blt 1 fs.length) E f with
      | none => none
      | some i => match s_res fs.length f i with
        | [q] => bif s_ie n (fs.length : Int) then some (ty, ([], n), fs.set q (.inl x), s_drop E f ch, s_ffa E f x fa) else some (s_wkR E (ty, ([], n), fs, ch, fa) f x [q])
        | rs => some (s_wkR E (ty, ([], n), fs, ch, fa) f x rs)
/-- is an index within -/
noncomputable def s_ix (E : sE) (len f : sF) : Bool := s_ge2 E f 0 && s_ge2 E (s_sub len f) 1
/-- what a field says of its slots -/
noncomputable def q_W (rs : List Int) : sW → Int32 → Prop
  | .inl f, x => s_val rs f = some x.toInt
  | .inr (i, u), x => i.1 ≤ x.toInt ∧ x.toInt ≤ i.2 ∧ ∀ f, u = some f → ∃ v, s_val rs f = some v ∧ x.toInt ≤ v
noncomputable def q_Ro (rs : List Int) (n : Nat) (g : Nat → Int32) (ro : sR) : Prop :=
  s_val rs ro.2.1 = some (n : Int) ∧ 0 < ro.2.2.1.length ∧ (∀ j, j < n → ∃ w, ro.2.2.1[j % ro.2.2.1.length]? = some w ∧ q_W rs w (g j)) ∧ (∀ p ∈ ro.2.2.2.1, ∃ j, j < n ∧ s_val rs p.1 = some (j : Int) ∧ s_val rs p.2 = some (g j).toInt) ∧ (∀ p ∈ ro.2.2.2.2, ∃ u, s_val rs p.1 = some u ∧ ∀ j, j < n → (j : Int) < u → p.2.1 ≤ (g j).toInt ∧ (g j).toInt ≤ p.2.2)
theorem q_W.mono {rs : List Int} (e : List Int) {w : sW} {x : Int32} (h : q_W rs w x) : q_W (rs ++ e) w x := by
  rcases w with f | ⟨i, u⟩
  · exact s_val_mono e h
  · exact ⟨h.1, h.2.1, fun f hf => by obtain ⟨v, h1, h2⟩ := h.2.2 f hf; exact ⟨v, s_val_mono e h1, h2⟩⟩
theorem q_Ro.mono {rs : List Int} (e : List Int) {n : Nat} {g : Nat → Int32} {ro : sR} (h : q_Ro rs n g ro) : q_Ro (rs ++ e) n g ro :=
  ⟨s_val_mono e h.1, h.2.1, fun j hj => by obtain ⟨w, h1, h2⟩ := h.2.2.1 j hj; exact ⟨w, h1, h2.mono e⟩, fun p hp => by obtain ⟨j, h1, h2, h3⟩ := h.2.2.2.1 p hp; exact ⟨j, h1, s_val_mono e h2, s_val_mono e h3⟩, fun p hp => by obtain ⟨u, h1, h2⟩ := h.2.2.2.2 p hp; exact ⟨u, s_val_mono e h1, h2⟩⟩
section Rw
variable {rs : List Int} {E : sE}
theorem s_divsS {P : Nat} : ∀ {t : sT} {v : Int}, s_divs P t = true → s_ev rs t = some v → v % (P : Int) = 0
  | [], v, _, h => by cases h; exact Int.zero_emod _
  | (k, c) :: t, v, h, hv => by
    simp only [s_divs, Bool.and_eq_true] at h
    obtain ⟨a, u, h1, h2, rfl⟩ := s_ev_cons.mp hv
    have e1 := s_ie_iff.mp h.1
    have e2 := s_divsS h.2 h2
    obtain ⟨c', hc⟩ := Int.dvd_of_emod_eq_zero e1
    obtain ⟨u', hu⟩ := Int.dvd_of_emod_eq_zero e2
    apply Int.emod_eq_zero_of_dvd
    refine ⟨c' * a + u', ?_⟩
    have hc : c = (P : Int) * c' := hc
    rw [hc, hu, Int.mul_add, Int.mul_assoc]
theorem s_resS {P : Nat} {f : sF} {i : pI} {j : Nat} (hP : 0 < P) (hf : s_val rs f = some (j : Int)) (h1 : i.1 ≤ (j : Int)) (h2 : (j : Int) ≤ i.2) : j % P ∈ s_res P f i := by
  have ej : ((j : Int) % (P : Int)).toNat = j % P := rfl
  unfold s_res
  cases hd : s_divs P f.1 with
  | true =>
    obtain ⟨a, g1, g2⟩ := s_val_iff.mp hf
    have e := s_divsS hd g1
    refine List.mem_singleton.mpr ?_
    rw [← ej, g2, Int.add_emod, e, Int.zero_add, Int.emod_emod]
  | false =>
    simp only [cond_false]
    cases hl : s_le (P : Int) (i.2 - i.1 + 1) with
    | true => exact List.mem_range.mpr (Nat.mod_lt _ hP)
    | false =>
      refine List.mem_map.mpr ⟨((j : Int) - i.1).toNat, List.mem_range.mpr (by omega), ?_⟩
      rw [show i.1 + ((((j : Int) - i.1).toNat : Nat) : Int) = (j : Int) by omega]
      exact ej
theorem s_wIS {w : sW} {x : Int32} {q : pI × Option sF} (hE : q_E rs E) (h : q_W rs w x) (hq : s_wI E w = some q) : q_W rs (.inr q) x := by
  rcases w with f | q0
  · simp only [s_wI] at hq
    split at hq
    · cases hq
    · rename_i i hi
      cases hq
      obtain ⟨g1, g2⟩ := s_bndS hE hi h
      exact ⟨g1, g2, fun f hf => by cases hf⟩
  · cases hq
    exact h
theorem s_upS {a b : Option sF} {u : sF} (h : s_up a b = some u) : a = some u ∧ b = some u := by
  unfold s_up at h
  split at h
  · rename_i x y
    cases he : s_eqF x y with
    | true =>
      rw [he] at h
      cases h
      exact ⟨rfl, by rw [s_eqF_eq he]⟩
    | false => rw [he] at h; cases h
  · cases h
theorem s_jnL {a b : pI × Option sF} {x : Int32} (h : q_W rs (.inr a) x) : q_W rs (.inr (s_jn a b)) x :=
  ⟨Int.le_trans (s_min_l _ _) h.1, Int.le_trans h.2.1 (s_max_l _ _), fun f hf => h.2.2 f (s_upS hf).1⟩
theorem s_jnR {a b : pI × Option sF} {x : Int32} (h : q_W rs (.inr b) x) : q_W rs (.inr (s_jn a b)) x :=
  ⟨Int.le_trans (s_min_r _ _) h.1, Int.le_trans h.2.1 (s_max_r _ _), fun f hf => h.2.2 f (s_upS hf).2⟩
theorem s_jnsS {fs : List sW} {x : Int32} (hE : q_E rs E) : ∀ {l : List Nat} {q : Nat} {w : sW} {j : pI × Option sF}, q ∈ l → fs[q]? = some w → q_W rs w x → s_jns E fs l = some j → q_W rs (.inr j) x
  | [], q, w, j, hq, _, _, _ => nomatch hq
  | q0 :: r, q, w, j, hq, hw, hx, h => by
    unfold s_jns at h
    split at h
    · cases h
    · rename_i w0 hw0
      split at h
      · cases h
      · rename_i a ha
        split at h
        · cases h
          have e : q = q0 := by simpa using hq
          subst e
          rw [hw] at hw0
          cases hw0
          exact s_wIS hE hx ha
        · split at h
          · cases h
          · rename_i b hb
            cases h
            rcases List.mem_cons.mp hq with rfl | hq
            · rw [hw] at hw0
              cases hw0
              exact s_jnL (s_wIS hE hx ha)
            · exact s_jnR (s_jnsS hE hq hw hx hb)
theorem s_findS {f v : sF} : ∀ {ch : List (sF × sF)}, s_find f ch = some v → (f, v) ∈ ch
  | [], h => by cases h
  | q :: r, h => by
    unfold s_find at h
    cases he : s_eqF q.1 f with
    | true =>
      rw [he] at h
      cases h
      rw [← s_eqF_eq he]
      exact List.mem_cons_self
    | false =>
      rw [he] at h
      exact List.mem_cons_of_mem _ (s_findS h)
theorem s_fctS {f : sF} {j : Nat} {x : Int} (hE : q_E rs E) (hf : s_val rs f = some (j : Int)) : ∀ {fa : List (sF × pI)} {b : pI}, (∀ p ∈ fa, ∃ u, s_val rs p.1 = some u ∧ ((j : Int) < u → p.2.1 ≤ x ∧ x ≤ p.2.2)) → b.1 ≤ x → x ≤ b.2 → (s_fct E f fa b).1 ≤ x ∧ x ≤ (s_fct E f fa b).2
  | [], b, _, h1, h2 => ⟨h1, h2⟩
  | q :: r, b, hfa, h1, h2 => by
    unfold s_fct
    have hr := fun p (hp : p ∈ r) => hfa p (List.mem_cons_of_mem _ hp)
    cases hq : s_gez E (s_sub q.1 f) 1 with
    | false => exact s_fctS hE hf hr h1 h2
    | true =>
      obtain ⟨u, g1, g2⟩ := hfa q List.mem_cons_self
      have := s_gezS hE hq (s_subS g1 hf)
      obtain ⟨k1, k2⟩ := g2 (by omega)
      exact s_fctS hE hf hr (s_max_le h1 k1) (s_le_min h2 k2)
theorem s_oneS {fs : List sW} {l : List Nat} {f : sF} {q : Nat} (h : s_one fs l = some f) (hq : q ∈ l) : fs[q]? = some (.inl f) := by
  unfold s_one at h
  split at h
  · split at h
    · rename_i hw
      cases h
      rw [List.mem_singleton.mp hq]
      exact hw
    · cases h
  · cases h
theorem s_rdS {ro : sR} {n j : Nat} {g : Nat → Int32} {f : sF} {X : sE × sF × sR} (hE : q_E rs E) (hR : q_Ro rs n g ro) (hf : s_val rs f = some (j : Int)) (hj : j < n) (h : s_rd E ro f = some X) :
    ∃ e, q_E (rs ++ e) X.1 ∧ s_val (rs ++ e) X.2.1 = some (g j).toInt ∧ q_Ro (rs ++ e) n g X.2.2 ∧ X.1.1 = E.1 ∧ X.2.2.1 = ro.1 ∧ X.2.2.2.1 = ro.2.1 := by
  obtain ⟨ty, len, fs, ch, fa⟩ := ro
  obtain ⟨r1, r2, r3, r4, r5⟩ := hR
  have same : ∀ {v : sF}, s_val rs v = some (g j).toInt → ∃ e, q_E (rs ++ e) E ∧ s_val (rs ++ e) v = some (g j).toInt ∧ q_Ro (rs ++ e) n g (ty, len, fs, ch, fa) := fun hv => ⟨[], by rw [List.append_nil]; exact hE, by rw [List.append_nil]; exact hv, by rw [List.append_nil]; exact ⟨r1, r2, r3, r4, r5⟩⟩
  unfold s_rd at h
  simp only at h
  split at h
  · rename_i v hv
    cases h
    obtain ⟨j2, k1, k2, k3⟩ := r4 _ (s_findS hv)
    have e : j2 = j := by
      have := Option.some.inj (hf.symm.trans k2)
      omega
    subst e
    obtain ⟨e, a1, a2, a3⟩ := same k3
    exact ⟨e, a1, a2, a3, rfl, rfl, rfl⟩
  · split at h
    · cases h
    · rename_i i hi
      obtain ⟨b1, b2⟩ := s_bnd2S hE hi hf
      have hm := s_resS r2 hf b1 b2
      obtain ⟨w, hw1, hw2⟩ := r3 j hj
      split at h
      · rename_i w1 h1
        cases h
        have := s_oneS h1 hm
        have hw1 : fs[j % fs.length]? = some w := hw1
        rw [hw1] at this
        cases this
        obtain ⟨e, a1, a2, a3⟩ := same hw2
        exact ⟨e, a1, a2, a3, rfl, rfl, rfl⟩
      · split at h
        · cases h
        · rename_i b u hb
          have hJ := s_jnsS hE hm hw1 hw2 hb
          obtain ⟨c1, c2⟩ := s_fctS (x := (g j).toInt) (b := b) hE hf (fun p hp => by
            obtain ⟨u, k1, k2⟩ := r5 p hp
            exact ⟨u, k1, k2 j hj⟩) hJ.1 hJ.2.1
          obtain ⟨n1, n2, n3⟩ := s_newS hE c1 c2
          generalize s_new E (s_fct E f fa b) = X1 at h n1 n2 n3
          obtain ⟨E1, v⟩ := X1
          simp only at h
          cases h
          have key : q_E (rs ++ [(g j).toInt]) (s_upE E1 v u) ∧ (s_upE E1 v u).1 = E1.1 := by
            cases u with
            | none => exact ⟨n1, rfl⟩
            | some uf =>
              obtain ⟨z, z1, z2⟩ := hJ.2.2 uf rfl
              exact s_geS n1 (s_subS (s_val_mono _ z1) n2) (by omega)
          refine ⟨_, key.1, n2, ⟨s_val_mono _ r1, r2, fun j hj => ?_, fun p hp => ?_, fun p hp => ?_⟩, key.2.trans n3, rfl, rfl⟩
          · obtain ⟨w, k1, k2⟩ := r3 j hj
            exact ⟨w, k1, k2.mono _⟩
          · rcases List.mem_cons.mp hp with rfl | hp
            · exact ⟨j, hj, s_val_mono _ hf, n2⟩
            · obtain ⟨j2, k1, k2, k3⟩ := r4 p (List.mem_of_mem_take hp)
              exact ⟨j2, k1, s_val_mono _ k2, s_val_mono _ k3⟩
          · obtain ⟨u, k1, k2⟩ := r5 p hp
            exact ⟨u, s_val_mono _ k1, k2⟩
theorem s_wjO {x : sF} {w : sW} {y : Int32} (hE : q_E rs E) (h : q_W rs w y) : q_W rs (s_wj E x w) y := by
  rcases w with f | ⟨i, u⟩
  · unfold s_wj
    simp only
    cases s_eqF f x with
    | true => exact h
    | false =>
      simp only [cond_false]
      split
      · rename_i a b ha hb
        obtain ⟨g1, g2⟩ := s_bndS hE ha h
        exact ⟨Int.le_trans (s_min_l _ _) g1, Int.le_trans g2 (s_max_l _ _), fun f hf => by cases hf⟩
      · exact ⟨q_low _, q_high _, fun f hf => by cases hf⟩
  · unfold s_wj
    simp only
    split
    · rename_i b hb
      refine ⟨Int.le_trans (s_min_l _ _) h.1, Int.le_trans h.2.1 (s_max_l _ _), fun f hf => ?_⟩
      cases u with
      | none => cases hf
      | some uf =>
        simp only at hf
        cases hg : s_gez E (s_sub uf x) 0 with
        | true => rw [hg] at hf; cases hf; exact h.2.2 _ rfl
        | false => rw [hg] at hf; cases hf
    · exact ⟨q_low _, q_high _, fun f hf => by cases hf⟩
theorem s_wjN {x : sF} {w : sW} {y z : Int32} (hE : q_E rs E) (h : q_W rs w y) (hx : s_val rs x = some z.toInt) : q_W rs (s_wj E x w) z := by
  rcases w with f | ⟨i, u⟩
  · unfold s_wj
    simp only
    cases he : s_eqF f x with
    | true =>
      rw [← s_eqF_eq he] at hx
      exact hx
    | false =>
      simp only [cond_false]
      split
      · rename_i a b ha hb
        obtain ⟨g1, g2⟩ := s_bndS hE hb hx
        exact ⟨Int.le_trans (s_min_r _ _) g1, Int.le_trans g2 (s_max_r _ _), fun f hf => by cases hf⟩
      · exact ⟨q_low _, q_high _, fun f hf => by cases hf⟩
  · unfold s_wj
    simp only
    split
    · rename_i b hb
      obtain ⟨g1, g2⟩ := s_bndS hE hb hx
      refine ⟨Int.le_trans (s_min_r _ _) g1, Int.le_trans g2 (s_max_r _ _), fun f hf => ?_⟩
      cases u with
      | none => cases hf
      | some uf =>
        simp only at hf
        cases hg : s_gez E (s_sub uf x) 0 with
        | true =>
          rw [hg] at hf
          cases hf
          obtain ⟨v, k1, k2⟩ := h.2.2 _ rfl
          have := s_gezS hE hg (s_subS k1 hx)
          exact ⟨v, k1, by omega⟩
        | false => rw [hg] at hf; cases hf
    · exact ⟨q_low _, q_high _, fun f hf => by cases hf⟩
theorem s_memS {k : Nat} : ∀ {l : List Nat}, s_mem k l = true ↔ k ∈ l
  | [] => ⟨fun h => (by cases h), fun h => (by cases h)⟩
  | q :: r => by
    simp only [s_mem, Bool.or_eq_true, List.mem_cons]
    constructor
    · rintro (h | h)
      · exact Or.inl (Nat.eq_of_beq_eq_true h).symm
      · exact Or.inr (s_memS.mp h)
    · rintro (h | h)
      · exact Or.inl (by rw [h]; exact Nat.beq_refl _)
      · exact Or.inr (s_memS.mpr h)
theorem s_wkS {x : sF} {l : List Nat} : ∀ {fs : List sW} {k q : Nat} {w : sW}, fs[q]? = some w → (s_wk E x l k fs)[q]? = some (bif s_mem (k + q) l then s_wj E x w else w)
  | [], k, q, w, h => by cases h
  | w0 :: r, k, 0, w, h => by
    cases h
    rfl
  | w0 :: r, k, q + 1, w, h => by
    unfold s_wk
    rw [List.getElem?_cons_succ, s_wkS (k := k + 1) (q := q) (w := w) (by simpa using h), show k + 1 + q = k + (q + 1) by omega]
theorem s_wkL {x : sF} {l : List Nat} : ∀ {fs : List sW} {k : Nat}, (s_wk E x l k fs).length = fs.length
  | [], _ => rfl
  | w :: r, k => by
    unfold s_wk
    rw [List.length_cons, List.length_cons, s_wkL]
theorem s_apartS {f g : sF} {a b : Int} (hE : q_E rs E) (hf : s_val rs f = some a) (hg : s_val rs g = some b) (h : s_apart E f g = true) : a ≠ b := by
  unfold s_apart at h
  have hd := s_subS hf hg
  split at h
  · cases h
  · rename_i i hi
    obtain ⟨g1, g2⟩ := s_bndS hE hi hd
    simp only [Bool.or_eq_true] at h
    rcases h with (h | h) | h
    · have := s_le_iff.mp h; omega
    · have := s_le_iff.mp h; omega
    · have := s_isNeS hd hE.2.2.2 h; omega
theorem s_dropS {f : sF} {p : sF × sF} : ∀ {ch : List (sF × sF)}, p ∈ s_drop E f ch → p ∈ ch ∧ s_apart E f p.1 = true
  | [], h => by cases h
  | q :: r, h => by
    unfold s_drop at h
    cases ha : s_apart E f q.1 with
    | true =>
      rw [ha] at h
      rcases List.mem_cons.mp h with rfl | h
      · exact ⟨List.mem_cons_self, ha⟩
      · exact ⟨List.mem_cons_of_mem _ (s_dropS h).1, (s_dropS h).2⟩
    | false =>
      rw [ha] at h
      exact ⟨List.mem_cons_of_mem _ (s_dropS h).1, (s_dropS h).2⟩
theorem s_inIS {x : sF} {j : pI} {v : Int} (hE : q_E rs E) (hx : s_val rs x = some v) (h : s_inI E x j = true) : j.1 ≤ v ∧ v ≤ j.2 := by
  unfold s_inI at h
  split at h
  · cases h
  · rename_i i hi
    obtain ⟨g1, g2⟩ := s_bndS hE hi hx
    simp only [Bool.and_eq_true] at h
    have := s_le_iff.mp h.1
    have := s_le_iff.mp h.2
    omega
theorem s_ffaS {f x : sF} {p : sF × pI} : ∀ {fa : List (sF × pI)}, p ∈ s_ffa E f x fa → p ∈ fa ∧ (s_inI E x p.2 || s_gez E (s_sub f p.1) 0) = true
  | [], h => by cases h
  | q :: r, h => by
    unfold s_ffa at h
    cases ha : (s_inI E x q.2 || s_gez E (s_sub f q.1) 0) with
    | true =>
      rw [ha] at h
      rcases List.mem_cons.mp h with rfl | h
      · exact ⟨List.mem_cons_self, ha⟩
      · exact ⟨List.mem_cons_of_mem _ (s_ffaS h).1, (s_ffaS h).2⟩
    | false =>
      rw [ha] at h
      exact ⟨List.mem_cons_of_mem _ (s_ffaS h).1, (s_ffaS h).2⟩
/-- behind a write: caches and facts -/
theorem s_wrC {n j : Nat} {g : Nat → Int32} {f x : sF} {y : Int32} {ch : List (sF × sF)} (hE : q_E rs E) (hf : s_val rs f = some (j : Int)) (r4 : ∀ p ∈ ch, ∃ j, j < n ∧ s_val rs p.1 = some (j : Int) ∧ s_val rs p.2 = some (g j).toInt) : ∀ p ∈ s_drop E f ch, ∃ k, k < n ∧ s_val rs p.1 = some (k : Int) ∧ s_val rs p.2 = some (upd g j y k).toInt := fun p hp => by
  obtain ⟨h1, h2⟩ := s_dropS hp
  obtain ⟨k, k1, k2, k3⟩ := r4 p h1
  have := s_apartS hE hf k2 h2
  have e : upd g j y k = g k := by
    unfold upd
    rw [if_neg (by omega)]
  exact ⟨k, k1, k2, by rw [e]; exact k3⟩
theorem s_wrF {n j : Nat} {g : Nat → Int32} {f x : sF} {y : Int32} {fa : List (sF × pI)} (hE : q_E rs E) (hf : s_val rs f = some (j : Int)) (hx : s_val rs x = some y.toInt) (r5 : ∀ p ∈ fa, ∃ u, s_val rs p.1 = some u ∧ ∀ j, j < n → (j : Int) < u → p.2.1 ≤ (g j).toInt ∧ (g j).toInt ≤ p.2.2) : ∀ p ∈ s_ffa E f x fa, ∃ u, s_val rs p.1 = some u ∧ ∀ k, k < n → (k : Int) < u → p.2.1 ≤ (upd g j y k).toInt ∧ (upd g j y k).toInt ≤ p.2.2 := fun p hp => by
  obtain ⟨h1, h2⟩ := s_ffaS hp
  obtain ⟨u, k1, k2⟩ := r5 p h1
  refine ⟨u, k1, fun k hk hku => ?_⟩
  unfold upd
  by_cases e : k = j
  · rw [if_pos e]
    simp only [Bool.or_eq_true] at h2
    rcases h2 with h2 | h2
    · exact s_inIS hE hx h2
    · have := s_gezS hE h2 (s_subS hf k1)
      omega
  · rw [if_neg e]
    exact k2 k hk hku
theorem s_wkRS {ro : sR} {n j : Nat} {g : Nat → Int32} {f x : sF} {y : Int32} {l : List Nat} (hE : q_E rs E) (hR : q_Ro rs n g ro) (hf : s_val rs f = some (j : Int)) (hj : j < n) (hx : s_val rs x = some y.toInt) (hl : j % ro.2.2.1.length ∈ l) : q_Ro rs n (upd g j y) (s_wkR E ro f x l) := by
  obtain ⟨ty, len, fs, ch, fa⟩ := ro
  obtain ⟨r1, r2, r3, r4, r5⟩ := hR
  refine ⟨r1, by show 0 < (s_wk E x l 0 fs).length; rw [s_wkL]; exact r2, fun k hk => ?_, fun p hp => ?_, s_wrF hE hf hx r5⟩
  · obtain ⟨w, h1, h2⟩ := r3 k hk
    have h1 : fs[k % fs.length]? = some w := h1
    show ∃ w, (s_wk E x l 0 fs)[k % (s_wk E x l 0 fs).length]? = some w ∧ _
    rw [s_wkL, s_wkS h1]
    refine ⟨_, rfl, ?_⟩
    rw [Nat.zero_add]
    by_cases e : k = j
    · subst e
      have hm : s_mem (k % fs.length) l = true := s_memS.mpr hl
      rw [hm]
      have : upd g k y k = y := if_pos rfl
      rw [this]
      exact s_wjN hE h2 hx
    · have : upd g j y k = g k := if_neg e
      rw [this]
      cases s_mem (k % fs.length) l with
      | true => exact s_wjO hE h2
      | false => exact h2
  · have hp : p ∈ (f, x) :: (s_drop E f ch).take 7 := hp
    rcases List.mem_cons.mp hp with rfl | hp
    · exact ⟨j, hj, hf, by have : upd g j y j = y := if_pos rfl; rw [this]; exact hx⟩
    · exact s_wrC (x := x) hE hf r4 p (List.mem_of_mem_take hp)
theorem s_wrS {ro ro' : sR} {n j : Nat} {g : Nat → Int32} {f x : sF} {y : Int32} (hE : q_E rs E) (hR : q_Ro rs n g ro) (hf : s_val rs f = some (j : Int)) (hj : j < n) (hx : s_val rs x = some y.toInt) (h : s_wr E ro f x = some ro') : q_Ro rs n (upd g j y) ro' ∧ ro'.1 = ro.1 ∧ ro.2.1.1 = [] ∧ ro'.2.1 = ro.2.1 := by
  obtain ⟨ty, ⟨t, m⟩, fs, ch, fa⟩ := ro
  unfold s_wr at h
  simp only at h
  split at h
  · cases h
  · split at h
    · cases h
    · rename_i i hi
      obtain ⟨b1, b2⟩ := s_bnd2S hE hi hf
      have hm : j % fs.length ∈ s_res fs.length f i := s_resS hR.2.1 hf b1 b2
      split at h
      · rename_i q hq
        rw [hq] at hm
        have eq := List.mem_singleton.mp hm
        cases he : s_ie m (fs.length : Int) with
        | false =>
          rw [he] at h
          cases h
          exact ⟨s_wkRS hE hR hf hj hx (List.mem_singleton.mpr eq), rfl, rfl, rfl⟩
        | true =>
          rw [he] at h
          cases h
          obtain ⟨r1, r2, r3, r4, r5⟩ := hR
          have em := s_ie_iff.mp he
          have en : n = fs.length := by
            have h0 : s_val rs ([], m) = some m := s_numS m
            have r1 : s_val rs ([], m) = some (n : Int) := r1
            have := Option.some.inj (h0.symm.trans r1)
            omega
          have ejq : j = q := by rw [← eq, ← en, Nat.mod_eq_of_lt hj]
          subst ejq
          refine ⟨⟨r1, by show 0 < (fs.set j (.inl x)).length; rw [List.length_set]; exact r2, fun k hk => ?_, s_wrC (x := x) hE hf r4, s_wrF hE hf hx r5⟩, rfl, rfl, rfl⟩
          show ∃ w, (fs.set j (.inl x))[k % (fs.set j (.inl x)).length]? = some w ∧ _
          rw [List.length_set]
          have ek : k % fs.length = k := by rw [← en]; exact Nat.mod_eq_of_lt hk
          rw [ek]
          by_cases e : k = j
          · subst e
            rw [List.getElem?_set_self (by omega)]
            have : upd g k y k = y := if_pos rfl
            rw [this]
            exact ⟨_, rfl, hx⟩
          · rw [List.getElem?_set_ne (Ne.symm e)]
            have : upd g j y k = g k := if_neg e
            rw [this]
            obtain ⟨w, k1, k2⟩ := r3 k hk
            have k1 : fs[k % fs.length]? = some w := k1
            rw [ek] at k1
            exact ⟨w, k1, k2⟩
      · cases h
        exact ⟨s_wkRS hE hR hf hj hx hm, rfl, rfl, rfl⟩
theorem s_ixS {len f : sF} {n v : Int} (hE : q_E rs E) (hl : s_val rs len = some n) (hf : s_val rs f = some v) (h : s_ix E len f = true) : 0 ≤ v ∧ v < n := by
  simp only [s_ix, Bool.and_eq_true] at h
  have h1 := s_ge2S hE h.1 hf
  have h2 := s_ge2S hE h.2 (s_subS hl hf)
  omega
end Rw
